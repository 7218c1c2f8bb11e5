/-! methods, by wip/whole/gen.py -/
def m_Program_countApart : zM := (({ cls := "ScanPacker$Program", name := "countApart", desc := "(I)V" } : Jvm.MethodName), prog_7_method_9_code, 5, (Option.none : Option Jvm.ClassFile.FieldType), [], 2)
theorem ok_Program_countApart : zMok m_Program_countApart := ⟨by decide +kernel, zW_of 1244 (by decide +kernel) (by decide +kernel), zW_of 128 (by decide +kernel) (by decide +kernel), by decide, by decide +kernel, by decide +kernel⟩
set_option maxRecDepth 20000 in
theorem k_Program_countApart_b26 {l : Launch} {X : zX} (hl : l.stackTraces = false) {h : zH} {v1 : Int32} {v2 : Int32} {v3 : Int32} {v4 : Int32} : zGl l m_Program_countApart X 0 0 (f_Program_countApart_b26 h v1 v2 v3 v4) (26, [some (zr (some (6, 137))), some (zi v1), some (zi v2), some (zi v3), some (zi v4)], [], h) (Sum.elim (fun s : Int32 × zH => .inl (26, [some (zr (some (6, 137))), some (zi v1), some (zi v2), some (zi v3), some (zi s.1)], [], s.2)) (fun y : zH => .inl (75, [some (zr (some (6, 137))), some (zi v1), some (zi v2), some (zi v3), none], [], y))) := by
  unfold f_Program_countApart_b26
  refine zG_run t_Program [(.iload 4, 0, 0), (.aload_n 0, 0, 0), (.getfield 44, 6, 3)] (32, [some (zr (some (6, 137))), some (zi v1), some (zi v2), some (zi v3), some (zi v4)], [zi (h.1 137 3), zi v4], h) (by decide +kernel) rfl ?_
  refine zG_icmp (op := .ge) (off := 43) (tgt := 75) (by decide +kernel) rfl Iff.rfl (fun c12 => ?_) (fun c12 => ?_)
  · exact zG_end (L' := [some (zr (some (6, 137))), some (zi v1), some (zi v2), some (zi v3), none]) rfl (And.intro rfl (And.intro rfl (And.intro rfl (And.intro rfl trivial))))
  · refine zG_run t_Program [(.aload_n 0, 0, 0), (.getfield 29, 6, 11), (.iload_n 2, 0, 0)] (40, [some (zr (some (6, 137))), some (zi v1), some (zi v2), some (zi v3), some (zi v4)], [zi v2, zr (some (49, 143))], h) (by decide +kernel) rfl ?_
    refine zG_ald (v := zr (some (50, (143 + (1 + 1 * v2.toNatClampNeg))))) (n := 6) rfl (by decide +kernel) rfl rfl fun hb4 => ?_
    refine zG_run t_Program [(.iload_n 3, 0, 0), (.dup2, 0, 0)] (43, [some (zr (some (6, 137))), some (zi v1), some (zi v2), some (zi v3), some (zi v4)], [zi v3, zr (some (50, (143 + (1 + 1 * v2.toNatClampNeg)))), zi v3, zr (some (50, (143 + (1 + 1 * v2.toNatClampNeg))))], h) (by decide +kernel) rfl ?_
    refine zG_ald (v := zi (h.1 (143 + (1 + 1 * v2.toNatClampNeg)) v3.toNatClampNeg)) (n := 6) rfl (by decide +kernel) rfl rfl fun hb5 => ?_
    refine zG_run t_Program [(.aload_n 0, 0, 0), (.getfield 9, 6, 0), (.iload 4, 0, 0)] (50, [some (zr (some (6, 137))), some (zi v1), some (zi v2), some (zi v3), some (zi v4)], [zi v4, zr (some (44, 138)), zi (h.1 (143 + (1 + 1 * v2.toNatClampNeg)) v3.toNatClampNeg), zi v3, zr (some (50, (143 + (1 + 1 * v2.toNatClampNeg))))], h) (by decide +kernel) rfl ?_
    refine zG_ald (v := zi (h.1 138 v4.toNatClampNeg)) (n := 44) rfl (by decide +kernel) rfl rfl fun hb6 => ?_
    refine zG_run t_Program [(.iload_n 2, 0, 0)] (52, [some (zr (some (6, 137))), some (zi v1), some (zi v2), some (zi v3), some (zi v4)], [zi v2, zi (h.1 138 v4.toNatClampNeg), zi (h.1 (143 + (1 + 1 * v2.toNatClampNeg)) v3.toNatClampNeg), zi v3, zr (some (50, (143 + (1 + 1 * v2.toNatClampNeg))))], h) (by decide +kernel) rfl ?_
    refine zG_callN (idx := 108) (host := "ScanPacker") (R := (fun a => (some (zi a), h))) (as := [zi (h.1 138 v4.toNatClampNeg), zi v2]) (rest := [zi (h.1 (143 + (1 + 1 * v2.toNatClampNeg)) v3.toNatClampNeg), zi v3, zr (some (50, (143 + (1 + 1 * v2.toNatClampNeg))))]) (n := 2) (fun a ha => c_Main_bitOf hl ha) (by decide +kernel) ⟨ok_Main_bitOf, by decide, by decide +kernel⟩ rfl (by decide +kernel) w_68 rfl rfl (Nat.le_of_ble_eq_true rfl) fun x7 => ?_
    refine zG_run t_Program [(.aload_n 0, 0, 0), (.getfield 9, 6, 0), (.iload 4, 0, 0)] (61, [some (zr (some (6, 137))), some (zi v1), some (zi v2), some (zi v3), some (zi v4)], [zi v4, zr (some (44, 138)), zi x7, zi (h.1 (143 + (1 + 1 * v2.toNatClampNeg)) v3.toNatClampNeg), zi v3, zr (some (50, (143 + (1 + 1 * v2.toNatClampNeg))))], h) (by decide +kernel) rfl ?_
    refine zG_ald (v := zi (h.1 138 v4.toNatClampNeg)) (n := 44) rfl (by decide +kernel) rfl rfl fun hb8 => ?_
    refine zG_run t_Program [(.iload_n 3, 0, 0)] (63, [some (zr (some (6, 137))), some (zi v1), some (zi v2), some (zi v3), some (zi v4)], [zi v3, zi (h.1 138 v4.toNatClampNeg), zi x7, zi (h.1 (143 + (1 + 1 * v2.toNatClampNeg)) v3.toNatClampNeg), zi v3, zr (some (50, (143 + (1 + 1 * v2.toNatClampNeg))))], h) (by decide +kernel) rfl ?_
    refine zG_callN (idx := 108) (host := "ScanPacker") (R := (fun a => (some (zi a), h))) (as := [zi (h.1 138 v4.toNatClampNeg), zi v3]) (rest := [zi x7, zi (h.1 (143 + (1 + 1 * v2.toNatClampNeg)) v3.toNatClampNeg), zi v3, zr (some (50, (143 + (1 + 1 * v2.toNatClampNeg))))]) (n := 2) (fun a ha => c_Main_bitOf hl ha) (by decide +kernel) ⟨ok_Main_bitOf, by decide, by decide +kernel⟩ rfl (by decide +kernel) w_68 rfl rfl (Nat.le_of_ble_eq_true rfl) fun x9 => ?_
    refine zG_run t_Program [(.ixor, 0, 0), (.iadd, 0, 0)] (68, [some (zr (some (6, 137))), some (zi v1), some (zi v2), some (zi v3), some (zi v4)], [zi ((h.1 (143 + (1 + 1 * v2.toNatClampNeg)) v3.toNatClampNeg) + (x7 ^^^ x9)), zi v3, zr (some (50, (143 + (1 + 1 * v2.toNatClampNeg))))], h) (by decide +kernel) rfl ?_
    refine zG_guard fun hb11 => ?_
    refine zG_bind (fun y => (69, [some (zr (some (6, 137))), some (zi v1), some (zi v2), some (zi v3), some (zi v4)], [], y)) (zG_astc (h' := zsI h (143 + (1 + 1 * v2.toNatClampNeg)) v3.toNatClampNeg ((h.1 (143 + (1 + 1 * v2.toNatClampNeg)) v3.toNatClampNeg) + (x7 ^^^ x9))) rfl (by decide +kernel) hb11 rfl (zG_end (L' := [some (zr (some (6, 137))), some (zi v1), some (zi v2), some (zi v3), some (zi v4)]) rfl (And.intro rfl (And.intro rfl (And.intro rfl (And.intro rfl (And.intro rfl trivial))))))) fun h10 => ?_
    refine zG_run t_Program [(.iinc 4 1, 0, 0), (.goto (-46), 0, 0)] (26, [some (zr (some (6, 137))), some (zi v1), some (zi v2), some (zi v3), some (zi (v4 + 1))], [], h10) (by decide +kernel) rfl ?_
    exact zG_end (L' := [some (zr (some (6, 137))), some (zi v1), some (zi v2), some (zi v3), some (zi (v4 + 1))]) rfl (And.intro rfl (And.intro rfl (And.intro rfl (And.intro rfl (And.intro rfl trivial)))))
set_option maxRecDepth 20000 in
theorem k_Program_countApart_b9 {l : Launch} {X : zX} (hl : l.stackTraces = false) {h : zH} {v1 : Int32} {v2 : Int32} {v3 : Int32} : zGl l m_Program_countApart X 0 0 (f_Program_countApart_b9 h v1 v2 v3) (9, [some (zr (some (6, 137))), some (zi v1), some (zi v2), some (zi v3), none], [], h) (Sum.elim (fun s : Int32 × zH => .inl (9, [some (zr (some (6, 137))), some (zi v1), some (zi v2), some (zi s.1), none], [], s.2)) (fun y : zH => .inl (81, [some (zr (some (6, 137))), some (zi v1), some (zi v2), none, none], [], y))) := by
  unfold f_Program_countApart_b9
  refine zG_run t_Program [(.iload_n 3, 0, 0), (.iload_n 1, 0, 0)] (11, [some (zr (some (6, 137))), some (zi v1), some (zi v2), some (zi v3), none], [zi v1, zi v3], h) (by decide +kernel) rfl ?_
  refine zG_icmp (op := .ge) (off := 70) (tgt := 81) (by decide +kernel) rfl Iff.rfl (fun c15 => ?_) (fun c15 => ?_)
  · exact zG_end (L' := [some (zr (some (6, 137))), some (zi v1), some (zi v2), none, none]) rfl (And.intro rfl (And.intro rfl (And.intro rfl trivial)))
  · refine zG_run t_Program [(.aload_n 0, 0, 0), (.getfield 29, 6, 11), (.iload_n 2, 0, 0)] (19, [some (zr (some (6, 137))), some (zi v1), some (zi v2), some (zi v3), none], [zi v2, zr (some (49, 143))], h) (by decide +kernel) rfl ?_
    refine zG_ald (v := zr (some (50, (143 + (1 + 1 * v2.toNatClampNeg))))) (n := 6) rfl (by decide +kernel) rfl rfl fun hb1 => ?_
    refine zG_run t_Program [(.iload_n 3, 0, 0), (.iconst 0, 0, 0)] (22, [some (zr (some (6, 137))), some (zi v1), some (zi v2), some (zi v3), none], [zi 0, zi v3, zr (some (50, (143 + (1 + 1 * v2.toNatClampNeg))))], h) (by decide +kernel) rfl ?_
    refine zG_guard fun hb3 => ?_
    refine zG_bind (fun y => (23, [some (zr (some (6, 137))), some (zi v1), some (zi v2), some (zi v3), none], [], y)) (zG_astc (h' := zsI h (143 + (1 + 1 * v2.toNatClampNeg)) v3.toNatClampNeg 0) rfl (by decide +kernel) hb3 rfl (zG_end (L' := [some (zr (some (6, 137))), some (zi v1), some (zi v2), some (zi v3), none]) rfl (And.intro rfl (And.intro rfl (And.intro rfl (And.intro rfl trivial)))))) fun h2 => ?_
    refine zG_run t_Program [(.iconst 0, 0, 0), (.istore 4, 0, 0)] (26, [some (zr (some (6, 137))), some (zi v1), some (zi v2), some (zi v3), some (zi 0)], [], h2) (by decide +kernel) rfl ?_
    refine zG_forget (L' := [some (zr (some (6, 137))), some (zi v1), some (zi v2), some (zi v3), some (zi 0)]) (And.intro rfl (And.intro rfl (And.intro rfl (And.intro rfl (And.intro rfl trivial))))) ?_
    refine zG_bind (fun y : zH => (75, [some (zr (some (6, 137))), some (zi v1), some (zi v2), some (zi v3), none], [], y)) (zG_iter (fun s : Int32 × zH => (26, [some (zr (some (6, 137))), some (zi v1), some (zi v2), some (zi v3), some (zi s.1)], [], s.2)) fun s => k_Program_countApart_b26 hl) (fun y14 => ?_)
    refine zG_run t_Program [(.iinc 3 1, 0, 0), (.goto (-69), 0, 0)] (9, [some (zr (some (6, 137))), some (zi v1), some (zi v2), some (zi (v3 + 1)), none], [], y14) (by decide +kernel) rfl ?_
    exact zG_end (L' := [some (zr (some (6, 137))), some (zi v1), some (zi v2), some (zi (v3 + 1)), none]) rfl (And.intro rfl (And.intro rfl (And.intro rfl (And.intro rfl trivial))))
set_option maxRecDepth 20000 in
theorem k_Program_countApart_b2 {l : Launch} {X : zX} (hl : l.stackTraces = false) {h : zH} {v1 : Int32} {v2 : Int32} : zGl l m_Program_countApart X 0 0 (f_Program_countApart_b2 h v1 v2) (2, [some (zr (some (6, 137))), some (zi v1), some (zi v2), none, none], [], h) (Sum.elim (fun s : Int32 × zH => .inl (2, [some (zr (some (6, 137))), some (zi v1), some (zi s.1), none, none], [], s.2)) (fun y : zH => .inl (87, [none, none, none, none, none], [], y))) := by
  unfold f_Program_countApart_b2
  refine zG_run t_Program [(.iload_n 2, 0, 0), (.iload_n 1, 0, 0)] (4, [some (zr (some (6, 137))), some (zi v1), some (zi v2), none, none], [zi v1, zi v2], h) (by decide +kernel) rfl ?_
  refine zG_icmp (op := .ge) (off := 83) (tgt := 87) (by decide +kernel) rfl Iff.rfl (fun c18 => ?_) (fun c18 => ?_)
  · exact zG_end (L' := [none, none, none, none, none]) rfl (trivial)
  · refine zG_run t_Program [(.iconst 0, 0, 0), (.istore_n 3, 0, 0)] (9, [some (zr (some (6, 137))), some (zi v1), some (zi v2), some (zi 0), none], [], h) (by decide +kernel) rfl ?_
    refine zG_forget (L' := [some (zr (some (6, 137))), some (zi v1), some (zi v2), some (zi 0), none]) (And.intro rfl (And.intro rfl (And.intro rfl (And.intro rfl trivial)))) ?_
    refine zG_bind (fun y : zH => (81, [some (zr (some (6, 137))), some (zi v1), some (zi v2), none, none], [], y)) (zG_iter (fun s : Int32 × zH => (9, [some (zr (some (6, 137))), some (zi v1), some (zi v2), some (zi s.1), none], [], s.2)) fun s => k_Program_countApart_b9 hl) (fun y17 => ?_)
    refine zG_run t_Program [(.iinc 2 1, 0, 0), (.goto (-82), 0, 0)] (2, [some (zr (some (6, 137))), some (zi v1), some (zi (v2 + 1)), none, none], [], y17) (by decide +kernel) rfl ?_
    exact zG_end (L' := [some (zr (some (6, 137))), some (zi v1), some (zi (v2 + 1)), none, none]) rfl (And.intro rfl (And.intro rfl (And.intro rfl trivial)))
set_option maxRecDepth 20000 in
theorem k_Program_countApart {l : Launch} {X : zX} (hl : l.stackTraces = false) {h : zH} {v1 : Int32} : zGl l m_Program_countApart X 0 0 (f_Program_countApart h v1) (0, [some (zr (some (6, 137))), some (zi v1), none, none, none], [], h) (fun x => .inr ((fun a => (.inl none, a) : zH → zF) x)) := by
  unfold f_Program_countApart
  refine zG_run t_Program [(.iconst 0, 0, 0), (.istore_n 2, 0, 0)] (2, [some (zr (some (6, 137))), some (zi v1), some (zi 0), none, none], [], h) (by decide +kernel) rfl ?_
  refine zG_forget (L' := [some (zr (some (6, 137))), some (zi v1), some (zi 0), none, none]) (And.intro rfl (And.intro rfl (And.intro rfl trivial))) ?_
  refine zG_bind (fun y : zH => (87, [none, none, none, none, none], [], y)) (zG_iter (fun s : Int32 × zH => (2, [some (zr (some (6, 137))), some (zi v1), some (zi s.1), none, none], [], s.2)) fun s => k_Program_countApart_b2 hl) (fun y20 => ?_)
  exact zG_ret (r := none) rfl (zrd_v rfl (by decide +kernel))
theorem c_Program_countApart {l : Launch} {X : zX} (hl : l.stackTraces = false) {h : zH} {v1 : Int32} {x : zH} (hx : f_Program_countApart h v1 = some x) : zCt l (true, 2) 2 m_Program_countApart X 0 0 [zr (some (6, 137)), zi v1] h ((fun a => (.inl none, a) : zH → zF) x) :=
  zG_ct (R := fun a => (.inl none, a)) (x := x) ok_Program_countApart hl (Nat.le_of_ble_eq_true rfl) hx (k_Program_countApart hl)
def m_Program_listCells : zM := (({ cls := "ScanPacker$Program", name := "listCells", desc := "(LScanPacker$Net;I)I" } : Jvm.MethodName), prog_7_method_10_code, 5, (Option.some Jvm.ClassFile.FieldType.int), [], 1)
theorem ok_Program_listCells : zMok m_Program_listCells := ⟨by decide +kernel, zW_of 1248 (by decide +kernel) (by decide +kernel), zW_of 128 (by decide +kernel) (by decide +kernel), by decide, by decide +kernel, by decide +kernel⟩
set_option maxRecDepth 20000 in
theorem k_Program_listCells_b5 {l : Launch} {X : zX} (hl : l.stackTraces = false) {o1 : Nat} {h : zH} {v2 : Int32} {v3 : Int32} {v4 : Int32} : zGl l m_Program_listCells X 0 0 (f_Program_listCells_b5 o1 h v2 v3 v4) (5, [some (zr (some (6, 137))), some (zr (some (3, o1))), some (zi v2), some (zi v3), some (zi v4)], [], h) (Sum.elim (fun s : Int32 × Int32 × zH => .inl (5, [some (zr (some (6, 137))), some (zr (some (3, o1))), some (zi v2), some (zi s.1), some (zi s.2.1)], [], s.2.2)) (fun y : Int32 × zH => .inl (42, [none, none, none, some (zi y.1), none], [], y.2))) := by
  unfold f_Program_listCells_b5
  refine zG_run t_Program [(.iload 4, 0, 0), (.aload_n 1, 0, 0), (.getfield 87, 3, 0)] (11, [some (zr (some (6, 137))), some (zr (some (3, o1))), some (zi v2), some (zi v3), some (zi v4)], [zi (h.1 o1 0), zi v4], h) (by decide +kernel) rfl ?_
  refine zG_icmp (op := .ge) (off := 31) (tgt := 42) (by decide +kernel) rfl Iff.rfl (fun c5 => ?_) (fun c5 => ?_)
  · exact zG_end (L' := [none, none, none, some (zi v3), none]) rfl (And.intro rfl trivial)
  · refine zG_run t_Program [(.aload_n 1, 0, 0), (.getfield 134, 3, 12), (.iload 4, 0, 0)] (20, [some (zr (some (6, 137))), some (zr (some (3, o1))), some (zi v2), some (zi v3), some (zi v4)], [zi v4, zr (some (27, (o1 + 28)))], h) (by decide +kernel) rfl ?_
    refine zG_ald (v := zi (h.1 (o1 + 28) v4.toNatClampNeg)) (n := 6) rfl (by decide +kernel) rfl rfl fun hb1 => ?_
    refine zG_run t_Program [(.iload_n 2, 0, 0)] (22, [some (zr (some (6, 137))), some (zr (some (3, o1))), some (zi v2), some (zi v3), some (zi v4)], [zi v2, zi (h.1 (o1 + 28) v4.toNatClampNeg)], h) (by decide +kernel) rfl ?_
    refine zG_icmp (op := .ne) (off := 14) (tgt := 36) (by decide +kernel) rfl Iff.rfl (fun c4 => ?_) (fun c4 => ?_)
    · refine zG_run t_Program [(.iinc 4 1, 0, 0), (.goto (-34), 0, 0)] (5, [some (zr (some (6, 137))), some (zr (some (3, o1))), some (zi v2), some (zi v3), some (zi (v4 + 1))], [], h) (by decide +kernel) rfl ?_
      exact zG_end (L' := [some (zr (some (6, 137))), some (zr (some (3, o1))), some (zi v2), some (zi v3), some (zi (v4 + 1))]) rfl (And.intro rfl (And.intro rfl (And.intro rfl (And.intro rfl (And.intro rfl trivial)))))
    · refine zG_run t_Program [(.aload_n 0, 0, 0), (.getfield 24, 6, 10), (.iload_n 3, 0, 0), (.iload 4, 0, 0)] (32, [some (zr (some (6, 137))), some (zr (some (3, o1))), some (zi v2), some (zi v3), some (zi v4)], [zi v4, zi v3, zr (some (48, 142))], h) (by decide +kernel) rfl ?_
      refine zG_guard fun hb3 => ?_
      refine zG_bind (fun y => (33, [some (zr (some (6, 137))), some (zr (some (3, o1))), some (zi v2), some (zi v3), some (zi v4)], [], y)) (zG_astc (h' := zsI h 142 v3.toNatClampNeg v4) rfl (by decide +kernel) hb3 rfl (zG_end (L' := [some (zr (some (6, 137))), some (zr (some (3, o1))), some (zi v2), some (zi v3), some (zi v4)]) rfl (And.intro rfl (And.intro rfl (And.intro rfl (And.intro rfl (And.intro rfl trivial))))))) fun h2 => ?_
      refine zG_run t_Program [(.iinc 3 1, 0, 0), (.iinc 4 1, 0, 0), (.goto (-34), 0, 0)] (5, [some (zr (some (6, 137))), some (zr (some (3, o1))), some (zi v2), some (zi (v3 + 1)), some (zi (v4 + 1))], [], h2) (by decide +kernel) rfl ?_
      exact zG_end (L' := [some (zr (some (6, 137))), some (zr (some (3, o1))), some (zi v2), some (zi (v3 + 1)), some (zi (v4 + 1))]) rfl (And.intro rfl (And.intro rfl (And.intro rfl (And.intro rfl (And.intro rfl trivial)))))
set_option maxRecDepth 20000 in
theorem k_Program_listCells {l : Launch} {X : zX} (hl : l.stackTraces = false) {o1 : Nat} {h : zH} {v2 : Int32} : zGl l m_Program_listCells X 0 0 (f_Program_listCells o1 h v2) (0, [some (zr (some (6, 137))), some (zr (some (3, o1))), some (zi v2), none, none], [], h) (fun x => .inr ((fun a => (.inl (some (zi a.1)), a.2) : Int32 × zH → zF) x)) := by
  unfold f_Program_listCells
  refine zG_run t_Program [(.iconst 0, 0, 0), (.istore_n 3, 0, 0), (.iconst 0, 0, 0), (.istore 4, 0, 0)] (5, [some (zr (some (6, 137))), some (zr (some (3, o1))), some (zi v2), some (zi 0), some (zi 0)], [], h) (by decide +kernel) rfl ?_
  refine zG_forget (L' := [some (zr (some (6, 137))), some (zr (some (3, o1))), some (zi v2), some (zi 0), some (zi 0)]) (And.intro rfl (And.intro rfl (And.intro rfl (And.intro rfl (And.intro rfl trivial))))) ?_
  refine zG_bind (fun y : Int32 × zH => (42, [none, none, none, some (zi y.1), none], [], y.2)) (zG_iter (fun s : Int32 × Int32 × zH => (5, [some (zr (some (6, 137))), some (zr (some (3, o1))), some (zi v2), some (zi s.1), some (zi s.2.1)], [], s.2.2)) fun s => k_Program_listCells_b5 hl) (fun y7 => ?_)
  refine zG_run t_Program [(.iload_n 3, 0, 0)] (43, [none, none, none, some (zi y7.1), none], [zi y7.1], y7.2) (by decide +kernel) rfl ?_
  exact zG_ret (r := some (zi y7.1)) rfl (zrd_i rfl (by decide +kernel))
theorem c_Program_listCells {l : Launch} {X : zX} (hl : l.stackTraces = false) {o1 : Nat} {h : zH} {v2 : Int32} {x : Int32 × zH} (hx : f_Program_listCells o1 h v2 = some x) : zCt l (true, 2) 2 m_Program_listCells X 0 0 [zr (some (6, 137)), zr (some (3, o1)), zi v2] h ((fun a => (.inl (some (zi a.1)), a.2) : Int32 × zH → zF) x) :=
  zG_ct (R := fun a => (.inl (some (zi a.1)), a.2)) (x := x) ok_Program_listCells hl (Nat.le_of_ble_eq_true rfl) hx (k_Program_listCells hl)
def m_Program_costOfTried : zM := (({ cls := "ScanPacker$Program", name := "costOfTried", desc := "(I)I" } : Jvm.MethodName), prog_7_method_11_code, 4, (Option.some Jvm.ClassFile.FieldType.int), [], 1)
theorem ok_Program_costOfTried : zMok m_Program_costOfTried := ⟨by decide +kernel, zW_of 1252 (by decide +kernel) (by decide +kernel), zW_of 128 (by decide +kernel) (by decide +kernel), by decide, by decide +kernel, by decide +kernel⟩
set_option maxRecDepth 20000 in
theorem k_Program_costOfTried_b4 {l : Launch} {X : zX} (hl : l.stackTraces = false) {h : zH} {v1 : Int32} {v2 : Int32} {v3 : Int32} : zGl l m_Program_costOfTried X 0 0 (f_Program_costOfTried_b4 h v1 v2 v3) (4, [some (zr (some (6, 137))), some (zi v1), some (zi v2), some (zi v3)], [], h) (Sum.elim (fun s : Int32 × Int32 => .inl (4, [some (zr (some (6, 137))), some (zi v1), some (zi s.1), some (zi s.2)], [], h)) (fun y : Int32 => .inl (40, [none, none, some (zi y), none], [], h))) := by
  unfold f_Program_costOfTried_b4
  refine zG_run t_Program [(.iload_n 3, 0, 0), (.iload_n 1, 0, 0)] (6, [some (zr (some (6, 137))), some (zi v1), some (zi v2), some (zi v3)], [zi v1, zi v3], h) (by decide +kernel) rfl ?_
  refine zG_icmp (op := .ge) (off := 34) (tgt := 40) (by decide +kernel) rfl Iff.rfl (fun c5 => ?_) (fun c5 => ?_)
  · exact zG_end (L' := [none, none, some (zi v2), none]) rfl (And.intro rfl trivial)
  · refine zG_run t_Program [(.iload_n 2, 0, 0), (.iload_n 3, 0, 0), (.aload_n 0, 0, 0), (.getfield 29, 6, 11), (.aload_n 0, 0, 0), (.getfield 24, 6, 10), (.iload_n 3, 0, 0), (.iconst 1, 0, 0), (.isub, 0, 0)] (22, [some (zr (some (6, 137))), some (zi v1), some (zi v2), some (zi v3)], [zi (v3 - 1), zr (some (48, 142)), zr (some (49, 143)), zi v3, zi v2], h) (by decide +kernel) rfl ?_
    refine zG_ald (v := zi (h.1 142 (v3 - 1).toNatClampNeg)) (n := 6) rfl (by decide +kernel) rfl rfl fun hb1 => ?_
    refine zG_ald (v := zr (some (50, (143 + (1 + 1 * (h.1 142 (v3 - 1).toNatClampNeg).toNatClampNeg))))) (n := 6) rfl (by decide +kernel) rfl rfl fun hb2 => ?_
    refine zG_run t_Program [(.aload_n 0, 0, 0), (.getfield 24, 6, 10), (.iload_n 3, 0, 0)] (29, [some (zr (some (6, 137))), some (zi v1), some (zi v2), some (zi v3)], [zi v3, zr (some (48, 142)), zr (some (50, (143 + (1 + 1 * (h.1 142 (v3 - 1).toNatClampNeg).toNatClampNeg)))), zi v3, zi v2], h) (by decide +kernel) rfl ?_
    refine zG_ald (v := zi (h.1 142 v3.toNatClampNeg)) (n := 6) rfl (by decide +kernel) rfl rfl fun hb3 => ?_
    refine zG_ald (v := zi (h.1 (143 + (1 + 1 * (h.1 142 (v3 - 1).toNatClampNeg).toNatClampNeg)) (h.1 142 v3.toNatClampNeg).toNatClampNeg)) (n := 6) rfl (by decide +kernel) rfl rfl fun hb4 => ?_
    refine zG_run t_Program [(.imul, 0, 0), (.iadd, 0, 0), (.istore_n 2, 0, 0), (.iinc 3 1, 0, 0), (.goto (-33), 0, 0)] (4, [some (zr (some (6, 137))), some (zi v1), some (zi (v2 + (v3 * (h.1 (143 + (1 + 1 * (h.1 142 (v3 - 1).toNatClampNeg).toNatClampNeg)) (h.1 142 v3.toNatClampNeg).toNatClampNeg)))), some (zi (v3 + 1))], [], h) (by decide +kernel) rfl ?_
    exact zG_end (L' := [some (zr (some (6, 137))), some (zi v1), some (zi (v2 + (v3 * (h.1 (143 + (1 + 1 * (h.1 142 (v3 - 1).toNatClampNeg).toNatClampNeg)) (h.1 142 v3.toNatClampNeg).toNatClampNeg)))), some (zi (v3 + 1))]) rfl (And.intro rfl (And.intro rfl (And.intro rfl (And.intro rfl trivial))))
set_option maxRecDepth 20000 in
theorem k_Program_costOfTried {l : Launch} {X : zX} (hl : l.stackTraces = false) {h : zH} {v1 : Int32} : zGl l m_Program_costOfTried X 0 0 (f_Program_costOfTried h v1) (0, [some (zr (some (6, 137))), some (zi v1), none, none], [], h) (fun x => .inr ((fun a => (.inl (some (zi a)), h) : Int32 → zF) x)) := by
  unfold f_Program_costOfTried
  refine zG_run t_Program [(.iconst 0, 0, 0), (.istore_n 2, 0, 0), (.iconst 1, 0, 0), (.istore_n 3, 0, 0)] (4, [some (zr (some (6, 137))), some (zi v1), some (zi 0), some (zi 1)], [], h) (by decide +kernel) rfl ?_
  refine zG_forget (L' := [some (zr (some (6, 137))), some (zi v1), some (zi 0), some (zi 1)]) (And.intro rfl (And.intro rfl (And.intro rfl (And.intro rfl trivial)))) ?_
  refine zG_bind (fun y : Int32 => (40, [none, none, some (zi y), none], [], h)) (zG_iter (fun s : Int32 × Int32 => (4, [some (zr (some (6, 137))), some (zi v1), some (zi s.1), some (zi s.2)], [], h)) fun s => k_Program_costOfTried_b4 hl) (fun y7 => ?_)
  refine zG_run t_Program [(.iload_n 2, 0, 0)] (41, [none, none, some (zi y7), none], [zi y7], h) (by decide +kernel) rfl ?_
  exact zG_ret (r := some (zi y7)) rfl (zrd_i rfl (by decide +kernel))
theorem c_Program_costOfTried {l : Launch} {X : zX} (hl : l.stackTraces = false) {h : zH} {v1 : Int32} {x : Int32} (hx : f_Program_costOfTried h v1 = some x) : zCt l (true, 2) 2 m_Program_costOfTried X 0 0 [zr (some (6, 137)), zi v1] h ((fun a => (.inl (some (zi a)), h) : Int32 → zF) x) :=
  zG_ct (R := fun a => (.inl (some (zi a)), h)) (x := x) ok_Program_costOfTried hl (Nat.le_of_ble_eq_true rfl) hx (k_Program_costOfTried hl)
def m_Program_keepTried : zM := (({ cls := "ScanPacker$Program", name := "keepTried", desc := "(I)V" } : Jvm.MethodName), prog_7_method_12_code, 3, (Option.none : Option Jvm.ClassFile.FieldType), [], 1)
theorem ok_Program_keepTried : zMok m_Program_keepTried := ⟨by decide +kernel, zW_of 1256 (by decide +kernel) (by decide +kernel), zW_of 128 (by decide +kernel) (by decide +kernel), by decide, by decide +kernel, by decide +kernel⟩
set_option maxRecDepth 20000 in
theorem k_Program_keepTried_b2 {l : Launch} {X : zX} (hl : l.stackTraces = false) {h : zH} {v1 : Int32} {v2 : Int32} : zGl l m_Program_keepTried X 0 0 (f_Program_keepTried_b2 h v1 v2) (2, [some (zr (some (6, 137))), some (zi v1), some (zi v2)], [], h) (Sum.elim (fun s : Int32 × zH => .inl (2, [some (zr (some (6, 137))), some (zi v1), some (zi s.1)], [], s.2)) (fun y : zH => .inl (25, [none, none, none], [], y))) := by
  unfold f_Program_keepTried_b2
  refine zG_run t_Program [(.iload_n 2, 0, 0), (.iload_n 1, 0, 0)] (4, [some (zr (some (6, 137))), some (zi v1), some (zi v2)], [zi v1, zi v2], h) (by decide +kernel) rfl ?_
  refine zG_icmp (op := .ge) (off := 21) (tgt := 25) (by decide +kernel) rfl Iff.rfl (fun c4 => ?_) (fun c4 => ?_)
  · exact zG_end (L' := [none, none, none]) rfl (trivial)
  · refine zG_run t_Program [(.aload_n 0, 0, 0), (.getfield 21, 6, 9), (.iload_n 2, 0, 0), (.aload_n 0, 0, 0), (.getfield 24, 6, 10), (.iload_n 2, 0, 0)] (17, [some (zr (some (6, 137))), some (zi v1), some (zi v2)], [zi v2, zr (some (48, 142)), zi v2, zr (some (47, 141))], h) (by decide +kernel) rfl ?_
    refine zG_ald (v := zi (h.1 142 v2.toNatClampNeg)) (n := 6) rfl (by decide +kernel) rfl rfl fun hb1 => ?_
    refine zG_guard fun hb3 => ?_
    refine zG_bind (fun y => (19, [some (zr (some (6, 137))), some (zi v1), some (zi v2)], [], y)) (zG_astc (h' := zsI h 141 v2.toNatClampNeg (h.1 142 v2.toNatClampNeg)) rfl (by decide +kernel) hb3 rfl (zG_end (L' := [some (zr (some (6, 137))), some (zi v1), some (zi v2)]) rfl (And.intro rfl (And.intro rfl (And.intro rfl trivial))))) fun h2 => ?_
    refine zG_run t_Program [(.iinc 2 1, 0, 0), (.goto (-20), 0, 0)] (2, [some (zr (some (6, 137))), some (zi v1), some (zi (v2 + 1))], [], h2) (by decide +kernel) rfl ?_
    exact zG_end (L' := [some (zr (some (6, 137))), some (zi v1), some (zi (v2 + 1))]) rfl (And.intro rfl (And.intro rfl (And.intro rfl trivial)))
set_option maxRecDepth 20000 in
theorem k_Program_keepTried {l : Launch} {X : zX} (hl : l.stackTraces = false) {h : zH} {v1 : Int32} : zGl l m_Program_keepTried X 0 0 (f_Program_keepTried h v1) (0, [some (zr (some (6, 137))), some (zi v1), none], [], h) (fun x => .inr ((fun a => (.inl none, a) : zH → zF) x)) := by
  unfold f_Program_keepTried
  refine zG_run t_Program [(.iconst 0, 0, 0), (.istore_n 2, 0, 0)] (2, [some (zr (some (6, 137))), some (zi v1), some (zi 0)], [], h) (by decide +kernel) rfl ?_
  refine zG_forget (L' := [some (zr (some (6, 137))), some (zi v1), some (zi 0)]) (And.intro rfl (And.intro rfl (And.intro rfl trivial))) ?_
  refine zG_bind (fun y : zH => (25, [none, none, none], [], y)) (zG_iter (fun s : Int32 × zH => (2, [some (zr (some (6, 137))), some (zi v1), some (zi s.1)], [], s.2)) fun s => k_Program_keepTried_b2 hl) (fun y6 => ?_)
  exact zG_ret (r := none) rfl (zrd_v rfl (by decide +kernel))
theorem c_Program_keepTried {l : Launch} {X : zX} (hl : l.stackTraces = false) {h : zH} {v1 : Int32} {x : zH} (hx : f_Program_keepTried h v1 = some x) : zCt l (true, 2) 2 m_Program_keepTried X 0 0 [zr (some (6, 137)), zi v1] h ((fun a => (.inl none, a) : zH → zF) x) :=
  zG_ct (R := fun a => (.inl none, a)) (x := x) ok_Program_keepTried hl (Nat.le_of_ble_eq_true rfl) hx (k_Program_keepTried hl)
def m_Program_swapTried : zM := (({ cls := "ScanPacker$Program", name := "swapTried", desc := "(II)V" } : Jvm.MethodName), prog_7_method_14_code, 4, (Option.none : Option Jvm.ClassFile.FieldType), [], 1)
theorem ok_Program_swapTried : zMok m_Program_swapTried := ⟨by decide +kernel, zW_of 1264 (by decide +kernel) (by decide +kernel), zW_of 128 (by decide +kernel) (by decide +kernel), by decide, by decide +kernel, by decide +kernel⟩
set_option maxRecDepth 20000 in
theorem k_Program_swapTried {l : Launch} {X : zX} (hl : l.stackTraces = false) {h : zH} {v1 : Int32} {v2 : Int32} : zGl l m_Program_swapTried X 0 0 (f_Program_swapTried h v1 v2) (0, [some (zr (some (6, 137))), some (zi v1), some (zi v2), none], [], h) (fun x => .inr ((fun a => (.inl none, a) : zH → zF) x)) := by
  unfold f_Program_swapTried
  refine zG_run t_Program [(.aload_n 0, 0, 0), (.getfield 24, 6, 10), (.iload_n 1, 0, 0)] (5, [some (zr (some (6, 137))), some (zi v1), some (zi v2), none], [zi v1, zr (some (48, 142))], h) (by decide +kernel) rfl ?_
  refine zG_ald (v := zi (h.1 142 v1.toNatClampNeg)) (n := 6) rfl (by decide +kernel) rfl rfl fun hb1 => ?_
  refine zG_run t_Program [(.istore_n 3, 0, 0), (.aload_n 0, 0, 0), (.getfield 24, 6, 10), (.iload_n 1, 0, 0), (.aload_n 0, 0, 0), (.getfield 24, 6, 10), (.iload_n 2, 0, 0)] (17, [some (zr (some (6, 137))), some (zi v1), some (zi v2), some (zi (h.1 142 v1.toNatClampNeg))], [zi v2, zr (some (48, 142)), zi v1, zr (some (48, 142))], h) (by decide +kernel) rfl ?_
  refine zG_ald (v := zi (h.1 142 v2.toNatClampNeg)) (n := 6) rfl (by decide +kernel) rfl rfl fun hb2 => ?_
  refine zG_guard fun hb4 => ?_
  refine zG_bind (fun y => (19, [some (zr (some (6, 137))), some (zi v1), some (zi v2), some (zi (h.1 142 v1.toNatClampNeg))], [], y)) (zG_astc (h' := zsI h 142 v1.toNatClampNeg (h.1 142 v2.toNatClampNeg)) rfl (by decide +kernel) hb4 rfl (zG_end (L' := [some (zr (some (6, 137))), some (zi v1), some (zi v2), some (zi (h.1 142 v1.toNatClampNeg))]) rfl (And.intro rfl (And.intro rfl (And.intro rfl (And.intro rfl trivial)))))) fun h3 => ?_
  refine zG_run t_Program [(.aload_n 0, 0, 0), (.getfield 24, 6, 10), (.iload_n 2, 0, 0), (.iload_n 3, 0, 0)] (25, [some (zr (some (6, 137))), some (zi v1), some (zi v2), some (zi (h.1 142 v1.toNatClampNeg))], [zi (h.1 142 v1.toNatClampNeg), zi v2, zr (some (48, 142))], h3) (by decide +kernel) rfl ?_
  refine zG_guard fun hb6 => ?_
  refine zG_bind (fun y => (26, [some (zr (some (6, 137))), some (zi v1), some (zi v2), some (zi (h.1 142 v1.toNatClampNeg))], [], y)) (zG_astc (h' := zsI h3 142 v2.toNatClampNeg (h.1 142 v1.toNatClampNeg)) rfl (by decide +kernel) hb6 rfl (zG_end (L' := [some (zr (some (6, 137))), some (zi v1), some (zi v2), some (zi (h.1 142 v1.toNatClampNeg))]) rfl (And.intro rfl (And.intro rfl (And.intro rfl (And.intro rfl trivial)))))) fun h5 => ?_
  exact zG_ret (r := none) rfl (zrd_v rfl (by decide +kernel))
theorem c_Program_swapTried {l : Launch} {X : zX} (hl : l.stackTraces = false) {h : zH} {v1 : Int32} {v2 : Int32} {x : zH} (hx : f_Program_swapTried h v1 v2 = some x) : zCt l (true, 2) 2 m_Program_swapTried X 0 0 [zr (some (6, 137)), zi v1, zi v2] h ((fun a => (.inl none, a) : zH → zF) x) :=
  zG_ct (R := fun a => (.inl none, a)) (x := x) ok_Program_swapTried hl (Nat.le_of_ble_eq_true rfl) hx (k_Program_swapTried hl)
def m_Program_stepTried : zM := (({ cls := "ScanPacker$Program", name := "stepTried", desc := "(I)Z" } : Jvm.MethodName), prog_7_method_13_code, 6, (Option.some Jvm.ClassFile.FieldType.boolean), [], 2)
theorem ok_Program_stepTried : zMok m_Program_stepTried := ⟨by decide +kernel, zW_of 1260 (by decide +kernel) (by decide +kernel), zW_of 128 (by decide +kernel) (by decide +kernel), by decide, by decide +kernel, by decide +kernel⟩
set_option maxRecDepth 20000 in
theorem k_Program_stepTried_b4 {l : Launch} {X : zX} (hl : l.stackTraces = false) {h : zH} {v1 : Int32} {v2 : Int32} : zGl l m_Program_stepTried X 0 0 (f_Program_stepTried_b4 h v1 v2) (4, [some (zr (some (6, 137))), some (zi v1), some (zi v2), none, none, none], [], h) (Sum.elim (fun s : Int32 => .inl (4, [some (zr (some (6, 137))), some (zi v1), some (zi s), none, none, none], [], h)) (fun y : Int32 => .inl (31, [some (zr (some (6, 137))), some (zi v1), some (zi y), none, none, none], [], h))) := by
  unfold f_Program_stepTried_b4
  refine zG_run t_Program [(.iload_n 2, 0, 0)] (5, [some (zr (some (6, 137))), some (zi v1), some (zi v2), none, none, none], [zi v2], h) (by decide +kernel) rfl ?_
  refine zG_if (op := .lt) (off := 26) (tgt := 31) (by decide +kernel) rfl Iff.rfl (fun c4 => ?_) (fun c4 => ?_)
  · exact zG_end (L' := [some (zr (some (6, 137))), some (zi v1), some (zi v2), none, none, none]) rfl (And.intro rfl (And.intro rfl (And.intro rfl trivial)))
  · refine zG_run t_Program [(.aload_n 0, 0, 0), (.getfield 24, 6, 10), (.iload_n 2, 0, 0)] (13, [some (zr (some (6, 137))), some (zi v1), some (zi v2), none, none, none], [zi v2, zr (some (48, 142))], h) (by decide +kernel) rfl ?_
    refine zG_ald (v := zi (h.1 142 v2.toNatClampNeg)) (n := 6) rfl (by decide +kernel) rfl rfl fun hb1 => ?_
    refine zG_run t_Program [(.aload_n 0, 0, 0), (.getfield 24, 6, 10), (.iload_n 2, 0, 0), (.iconst 1, 0, 0), (.iadd, 0, 0)] (21, [some (zr (some (6, 137))), some (zi v1), some (zi v2), none, none, none], [zi (v2 + 1), zr (some (48, 142)), zi (h.1 142 v2.toNatClampNeg)], h) (by decide +kernel) rfl ?_
    refine zG_ald (v := zi (h.1 142 (v2 + 1).toNatClampNeg)) (n := 6) rfl (by decide +kernel) rfl rfl fun hb2 => ?_
    refine zG_icmp (op := .le) (off := 9) (tgt := 31) (by decide +kernel) rfl Iff.rfl (fun c3 => ?_) (fun c3 => ?_)
    · exact zG_end (L' := [some (zr (some (6, 137))), some (zi v1), some (zi v2), none, none, none]) rfl (And.intro rfl (And.intro rfl (And.intro rfl trivial)))
    · refine zG_run t_Program [(.iinc 2 (-1), 0, 0), (.goto (-24), 0, 0)] (4, [some (zr (some (6, 137))), some (zi v1), some (zi (v2 + (-1))), none, none, none], [], h) (by decide +kernel) rfl ?_
      exact zG_end (L' := [some (zr (some (6, 137))), some (zi v1), some (zi (v2 + (-1))), none, none, none]) rfl (And.intro rfl (And.intro rfl (And.intro rfl trivial)))
set_option maxRecDepth 20000 in
theorem k_Program_stepTried_b41 {l : Launch} {X : zX} (hl : l.stackTraces = false) {h : zH} {v1 : Int32} {v2 : Int32} {v3 : Int32} : zGl l m_Program_stepTried X 0 0 (f_Program_stepTried_b41 h v1 v2 v3) (41, [some (zr (some (6, 137))), some (zi v1), some (zi v2), some (zi v3), none, none], [], h) (Sum.elim (fun s : Int32 => .inl (41, [some (zr (some (6, 137))), some (zi v1), some (zi v2), some (zi s), none, none], [], h)) (fun y : Int32 => .inl (67, [some (zr (some (6, 137))), some (zi v1), some (zi v2), some (zi y), none, none], [], h))) := by
  unfold f_Program_stepTried_b41
  refine zG_run t_Program [(.iload_n 3, 0, 0), (.iload_n 2, 0, 0)] (43, [some (zr (some (6, 137))), some (zi v1), some (zi v2), some (zi v3), none, none], [zi v2, zi v3], h) (by decide +kernel) rfl ?_
  refine zG_icmp (op := .le) (off := 24) (tgt := 67) (by decide +kernel) rfl Iff.rfl (fun c10 => ?_) (fun c10 => ?_)
  · exact zG_end (L' := [some (zr (some (6, 137))), some (zi v1), some (zi v2), some (zi v3), none, none]) rfl (And.intro rfl (And.intro rfl (And.intro rfl (And.intro rfl trivial))))
  · refine zG_run t_Program [(.aload_n 0, 0, 0), (.getfield 24, 6, 10), (.iload_n 3, 0, 0)] (51, [some (zr (some (6, 137))), some (zi v1), some (zi v2), some (zi v3), none, none], [zi v3, zr (some (48, 142))], h) (by decide +kernel) rfl ?_
    refine zG_ald (v := zi (h.1 142 v3.toNatClampNeg)) (n := 6) rfl (by decide +kernel) rfl rfl fun hb7 => ?_
    refine zG_run t_Program [(.aload_n 0, 0, 0), (.getfield 24, 6, 10), (.iload_n 2, 0, 0)] (57, [some (zr (some (6, 137))), some (zi v1), some (zi v2), some (zi v3), none, none], [zi v2, zr (some (48, 142)), zi (h.1 142 v3.toNatClampNeg)], h) (by decide +kernel) rfl ?_
    refine zG_ald (v := zi (h.1 142 v2.toNatClampNeg)) (n := 6) rfl (by decide +kernel) rfl rfl fun hb8 => ?_
    refine zG_icmp (op := .ge) (off := 9) (tgt := 67) (by decide +kernel) rfl Iff.rfl (fun c9 => ?_) (fun c9 => ?_)
    · exact zG_end (L' := [some (zr (some (6, 137))), some (zi v1), some (zi v2), some (zi v3), none, none]) rfl (And.intro rfl (And.intro rfl (And.intro rfl (And.intro rfl trivial))))
    · refine zG_run t_Program [(.iinc 3 (-1), 0, 0), (.goto (-23), 0, 0)] (41, [some (zr (some (6, 137))), some (zi v1), some (zi v2), some (zi (v3 + (-1))), none, none], [], h) (by decide +kernel) rfl ?_
      exact zG_end (L' := [some (zr (some (6, 137))), some (zi v1), some (zi v2), some (zi (v3 + (-1))), none, none]) rfl (And.intro rfl (And.intro rfl (And.intro rfl (And.intro rfl trivial))))
set_option maxRecDepth 20000 in
theorem k_Program_stepTried_b83 {l : Launch} {X : zX} (hl : l.stackTraces = false) {h : zH} {v4 : Int32} {v5 : Int32} : zGl l m_Program_stepTried X 0 0 (f_Program_stepTried_b83 h v4 v5) (83, [some (zr (some (6, 137))), none, none, none, some (zi v4), some (zi v5)], [], h) (Sum.elim (fun s : Int32 × Int32 × zH => .inl (83, [some (zr (some (6, 137))), none, none, none, some (zi s.1), some (zi s.2.1)], [], s.2.2)) (fun y : zH => .inl (107, [none, none, none, none, none, none], [], y))) := by
  unfold f_Program_stepTried_b83
  refine zG_run t_Program [(.iload 4, 0, 0), (.iload 5, 0, 0)] (87, [some (zr (some (6, 137))), none, none, none, some (zi v4), some (zi v5)], [zi v5, zi v4], h) (by decide +kernel) rfl ?_
  refine zG_icmp (op := .ge) (off := 20) (tgt := 107) (by decide +kernel) rfl Iff.rfl (fun c15 => ?_) (fun c15 => ?_)
  · exact zG_end (L' := [none, none, none, none, none, none]) rfl (trivial)
  · refine zG_run t_Program [(.aload_n 0, 0, 0), (.iload 4, 0, 0), (.iload 5, 0, 0)] (95, [some (zr (some (6, 137))), none, none, none, some (zi v4), some (zi v5)], [zi v5, zi v4, zr (some (6, 137))], h) (by decide +kernel) rfl ?_
    refine zG_callV (idx := 137) (R := (fun a => (none, a))) (as := [zi v4, zi v5]) (rest := []) (n := 2) (fun a ha => c_Program_swapTried hl ha) (by decide +kernel) ⟨ok_Program_swapTried, by decide, by decide +kernel⟩ rfl w_268 w_269 w_270 (by decide) rfl rfl rfl (Nat.le_of_ble_eq_true rfl) fun x14 => ?_
    refine zG_run t_Program [(.iinc 4 1, 0, 0), (.iinc 5 (-1), 0, 0), (.goto (-21), 0, 0)] (83, [some (zr (some (6, 137))), none, none, none, some (zi (v4 + 1)), some (zi (v5 + (-1)))], [], x14) (by decide +kernel) rfl ?_
    exact zG_end (L' := [some (zr (some (6, 137))), none, none, none, some (zi (v4 + 1)), some (zi (v5 + (-1)))]) rfl (And.intro rfl (And.intro rfl (And.intro rfl trivial)))
set_option maxRecDepth 20000 in
theorem k_Program_stepTried {l : Launch} {X : zX} (hl : l.stackTraces = false) {h : zH} {v1 : Int32} : zGl l m_Program_stepTried X 0 0 (f_Program_stepTried h v1) (0, [some (zr (some (6, 137))), some (zi v1), none, none, none, none], [], h) (fun x => .inr ((fun a => (.inl (some (zi a.1)), a.2) : Int32 × zH → zF) x)) := by
  unfold f_Program_stepTried
  refine zG_run t_Program [(.iload_n 1, 0, 0), (.iconst 2, 0, 0), (.isub, 0, 0), (.istore_n 2, 0, 0)] (4, [some (zr (some (6, 137))), some (zi v1), some (zi (v1 - 2)), none, none, none], [], h) (by decide +kernel) rfl ?_
  refine zG_forget (L' := [some (zr (some (6, 137))), some (zi v1), some (zi (v1 - 2)), none, none, none]) (And.intro rfl (And.intro rfl (And.intro rfl trivial))) ?_
  refine zG_bind (fun y : Int32 => (31, [some (zr (some (6, 137))), some (zi v1), some (zi y), none, none, none], [], h)) (zG_iter (fun s : Int32 => (4, [some (zr (some (6, 137))), some (zi v1), some (zi s), none, none, none], [], h)) fun s => k_Program_stepTried_b4 hl) (fun y6 => ?_)
  refine zG_run t_Program [(.iload_n 2, 0, 0)] (32, [some (zr (some (6, 137))), some (zi v1), some (zi y6), none, none, none], [zi y6], h) (by decide +kernel) rfl ?_
  refine zG_if (op := .ge) (off := 5) (tgt := 37) (by decide +kernel) rfl Iff.rfl (fun c18 => ?_) (fun c18 => ?_)
  · refine zG_run t_Program [(.iload_n 1, 0, 0), (.iconst 1, 0, 0), (.isub, 0, 0), (.istore_n 3, 0, 0)] (41, [some (zr (some (6, 137))), some (zi v1), some (zi y6), some (zi (v1 - 1)), none, none], [], h) (by decide +kernel) rfl ?_
    refine zG_forget (L' := [some (zr (some (6, 137))), some (zi v1), some (zi y6), some (zi (v1 - 1)), none, none]) (And.intro rfl (And.intro rfl (And.intro rfl (And.intro rfl trivial)))) ?_
    refine zG_bind (fun y : Int32 => (67, [some (zr (some (6, 137))), some (zi v1), some (zi y6), some (zi y), none, none], [], h)) (zG_iter (fun s : Int32 => (41, [some (zr (some (6, 137))), some (zi v1), some (zi y6), some (zi s), none, none], [], h)) fun s => k_Program_stepTried_b41 hl) (fun y12 => ?_)
    refine zG_run t_Program [(.aload_n 0, 0, 0), (.iload_n 2, 0, 0), (.iload_n 3, 0, 0)] (70, [some (zr (some (6, 137))), some (zi v1), some (zi y6), some (zi y12), none, none], [zi y12, zi y6, zr (some (6, 137))], h) (by decide +kernel) rfl ?_
    refine zG_callV (idx := 137) (R := (fun a => (none, a))) (as := [zi y6, zi y12]) (rest := []) (n := 2) (fun a ha => c_Program_swapTried hl ha) (by decide +kernel) ⟨ok_Program_swapTried, by decide, by decide +kernel⟩ rfl w_268 w_269 w_270 (by decide) rfl rfl rfl (Nat.le_of_ble_eq_true rfl) fun x13 => ?_
    refine zG_run t_Program [(.iload_n 2, 0, 0), (.iconst 1, 0, 0), (.iadd, 0, 0), (.istore 4, 0, 0), (.iload_n 1, 0, 0), (.iconst 1, 0, 0), (.isub, 0, 0), (.istore 5, 0, 0)] (83, [some (zr (some (6, 137))), some (zi v1), some (zi y6), some (zi y12), some (zi (y6 + 1)), some (zi (v1 - 1))], [], x13) (by decide +kernel) rfl ?_
    refine zG_forget (L' := [some (zr (some (6, 137))), none, none, none, some (zi (y6 + 1)), some (zi (v1 - 1))]) (And.intro rfl (And.intro rfl (And.intro rfl trivial))) ?_
    refine zG_bind (fun y : zH => (107, [none, none, none, none, none, none], [], y)) (zG_iter (fun s : Int32 × Int32 × zH => (83, [some (zr (some (6, 137))), none, none, none, some (zi s.1), some (zi s.2.1)], [], s.2.2)) fun s => k_Program_stepTried_b83 hl) (fun y17 => ?_)
    refine zG_run t_Program [(.iconst 1, 0, 0)] (108, [none, none, none, none, none, none], [zi 1], y17) (by decide +kernel) rfl ?_
    exact zG_ret (r := some (zi 1)) rfl (zrd_z rfl (by decide +kernel) rfl)
  · refine zG_run t_Program [(.iconst 0, 0, 0)] (36, [some (zr (some (6, 137))), some (zi v1), some (zi y6), none, none, none], [zi 0], h) (by decide +kernel) rfl ?_
    exact zG_ret (r := some (zi 0)) rfl (zrd_z rfl (by decide +kernel) rfl)
theorem c_Program_stepTried {l : Launch} {X : zX} (hl : l.stackTraces = false) {h : zH} {v1 : Int32} {x : Int32 × zH} (hx : f_Program_stepTried h v1 = some x) : zCt l (true, 2) 2 m_Program_stepTried X 0 0 [zr (some (6, 137)), zi v1] h ((fun a => (.inl (some (zi a.1)), a.2) : Int32 × zH → zF) x) :=
  zG_ct (R := fun a => (.inl (some (zi a.1)), a.2)) (x := x) ok_Program_stepTried hl (Nat.le_of_ble_eq_true rfl) hx (k_Program_stepTried hl)
def m_Program_arrange : zM := (({ cls := "ScanPacker$Program", name := "arrange", desc := "(LScanPacker$Net;I)I" } : Jvm.MethodName), prog_7_method_8_code, 7, (Option.some Jvm.ClassFile.FieldType.int), [], 3)
theorem ok_Program_arrange : zMok m_Program_arrange := ⟨by decide +kernel, zW_of 1240 (by decide +kernel) (by decide +kernel), zW_of 128 (by decide +kernel) (by decide +kernel), by decide, by decide +kernel, by decide +kernel⟩
set_option maxRecDepth 20000 in
theorem k_Program_arrange_b30 {l : Launch} {X : zX} (hl : l.stackTraces = false) {o1 : Nat} {h : zH} {v3 : Int32} {v4 : Int32} {v5 : Int32} : zGl l m_Program_arrange X 0 0 (f_Program_arrange_b30 o1 h v3 v4 v5) (30, [some (zr (some (6, 137))), none, none, some (zi v3), some (zi v4), some (zi v5), none], [], h) (Sum.elim (fun s : Int32 × Int32 × zH => .inl (30, [some (zr (some (6, 137))), none, none, some (zi v3), some (zi s.1), some (zi s.2.1), none], [], s.2.2)) (fun y : Int32 × zH => .inl (75, [none, none, none, none, some (zi y.1), none, none], [], y.2))) := by
  unfold f_Program_arrange_b30
  refine zG_run t_Program [(.iload 5, 0, 0), (.sipush 720, 0, 0)] (35, [some (zr (some (6, 137))), none, none, some (zi v3), some (zi v4), some (zi v5), none], [zi 720, zi v5], h) (by decide +kernel) rfl ?_
  refine zG_icmp (op := .ge) (off := 40) (tgt := 75) (by decide +kernel) rfl Iff.rfl (fun c10 => ?_) (fun c10 => ?_)
  · exact zG_end (L' := [none, none, none, none, some (zi v4), none, none]) rfl (And.intro rfl trivial)
  · refine zG_run t_Program [(.aload_n 0, 0, 0), (.iload_n 3, 0, 0)] (40, [some (zr (some (6, 137))), none, none, some (zi v3), some (zi v4), some (zi v5), none], [zi v3, zr (some (6, 137))], h) (by decide +kernel) rfl ?_
    refine zG_callV (idx := 130) (R := (fun a => (some (zi a.1), a.2))) (as := [zi v3]) (rest := []) (n := 1) (fun a ha => c_Program_stepTried hl ha) (by decide +kernel) ⟨ok_Program_stepTried, by decide, by decide +kernel⟩ rfl w_271 w_272 w_273 (by decide) rfl rfl rfl (Nat.le_of_ble_eq_true rfl) fun x5 => ?_
    refine zG_if (op := .eq) (off := 32) (tgt := 75) (by decide +kernel) rfl Iff.rfl (fun c9 => ?_) (fun c9 => ?_)
    · exact zG_end (L' := [none, none, none, none, some (zi v4), none, none]) rfl (And.intro rfl trivial)
    · refine zG_run t_Program [(.aload_n 0, 0, 0), (.iload_n 3, 0, 0)] (48, [some (zr (some (6, 137))), none, none, some (zi v3), some (zi v4), some (zi v5), none], [zi v3, zr (some (6, 137))], x5.2) (by decide +kernel) rfl ?_
      refine zG_callV (idx := 123) (R := (fun a => (some (zi a), x5.2))) (as := [zi v3]) (rest := []) (n := 1) (fun a ha => c_Program_costOfTried hl ha) (by decide +kernel) ⟨ok_Program_costOfTried, by decide, by decide +kernel⟩ rfl w_262 w_263 w_264 (by decide) rfl rfl rfl (Nat.le_of_ble_eq_true rfl) fun x6 => ?_
      refine zG_run t_Program [(.istore 6, 0, 0), (.iload 6, 0, 0), (.iload 4, 0, 0)] (57, [some (zr (some (6, 137))), none, none, some (zi v3), some (zi v4), some (zi v5), some (zi x6)], [zi v4, zi x6], x5.2) (by decide +kernel) rfl ?_
      refine zG_icmp (op := .ge) (off := 12) (tgt := 69) (by decide +kernel) rfl Iff.rfl (fun c8 => ?_) (fun c8 => ?_)
      · refine zG_run t_Program [(.iinc 5 1, 0, 0), (.goto (-42), 0, 0)] (30, [some (zr (some (6, 137))), none, none, some (zi v3), some (zi v4), some (zi (v5 + 1)), some (zi x6)], [], x5.2) (by decide +kernel) rfl ?_
        exact zG_end (L' := [some (zr (some (6, 137))), none, none, some (zi v3), some (zi v4), some (zi (v5 + 1)), none]) rfl (And.intro rfl (And.intro rfl (And.intro rfl (And.intro rfl trivial))))
      · refine zG_run t_Program [(.iload 6, 0, 0), (.istore 4, 0, 0), (.aload_n 0, 0, 0), (.iload_n 3, 0, 0)] (66, [some (zr (some (6, 137))), none, none, some (zi v3), some (zi x6), some (zi v5), some (zi x6)], [zi v3, zr (some (6, 137))], x5.2) (by decide +kernel) rfl ?_
        refine zG_callV (idx := 127) (R := (fun a => (none, a))) (as := [zi v3]) (rest := []) (n := 1) (fun a ha => c_Program_keepTried hl ha) (by decide +kernel) ⟨ok_Program_keepTried, by decide, by decide +kernel⟩ rfl w_265 w_266 w_267 (by decide) rfl rfl rfl (Nat.le_of_ble_eq_true rfl) fun x7 => ?_
        refine zG_run t_Program [(.iinc 5 1, 0, 0), (.goto (-42), 0, 0)] (30, [some (zr (some (6, 137))), none, none, some (zi v3), some (zi x6), some (zi (v5 + 1)), some (zi x6)], [], x7) (by decide +kernel) rfl ?_
        exact zG_end (L' := [some (zr (some (6, 137))), none, none, some (zi v3), some (zi x6), some (zi (v5 + 1)), none]) rfl (And.intro rfl (And.intro rfl (And.intro rfl (And.intro rfl trivial))))
set_option maxRecDepth 20000 in
theorem k_Program_arrange {l : Launch} {X : zX} (hl : l.stackTraces = false) {o1 : Nat} {h : zH} {v2 : Int32} : zGl l m_Program_arrange X 0 0 (f_Program_arrange o1 h v2) (0, [some (zr (some (6, 137))), some (zr (some (3, o1))), some (zi v2), none, none, none, none], [], h) (fun x => .inr ((fun a => (.inl (some (zi a.1)), a.2) : Int32 × zH → zF) x)) := by
  unfold f_Program_arrange
  refine zG_run t_Program [(.aload_n 0, 0, 0), (.aload_n 1, 0, 0), (.getfield 87, 3, 0)] (5, [some (zr (some (6, 137))), some (zr (some (3, o1))), some (zi v2), none, none, none, none], [zi (h.1 o1 0), zr (some (6, 137))], h) (by decide +kernel) rfl ?_
  refine zG_callV (idx := 116) (R := (fun a => (none, a))) (as := [zi (h.1 o1 0)]) (rest := []) (n := 1) (fun a ha => c_Program_countApart hl ha) (by decide +kernel) ⟨ok_Program_countApart, by decide, by decide +kernel⟩ rfl w_256 w_257 w_258 (by decide) rfl rfl rfl (Nat.le_of_ble_eq_true rfl) fun x1 => ?_
  refine zG_run t_Program [(.aload_n 0, 0, 0), (.aload_n 1, 0, 0), (.iload_n 2, 0, 0)] (11, [some (zr (some (6, 137))), some (zr (some (3, o1))), some (zi v2), none, none, none, none], [zi v2, zr (some (3, o1)), zr (some (6, 137))], x1) (by decide +kernel) rfl ?_
  refine zG_callV (idx := 120) (R := (fun a => (some (zi a.1), a.2))) (as := [zr (some (3, o1)), zi v2]) (rest := []) (n := 2) (fun a ha => c_Program_listCells hl ha) (by decide +kernel) ⟨ok_Program_listCells, by decide, by decide +kernel⟩ rfl w_259 w_260 w_261 (by decide) rfl rfl rfl (Nat.le_of_ble_eq_true rfl) fun x2 => ?_
  refine zG_run t_Program [(.istore_n 3, 0, 0), (.aload_n 0, 0, 0), (.iload_n 3, 0, 0)] (17, [some (zr (some (6, 137))), some (zr (some (3, o1))), some (zi v2), some (zi x2.1), none, none, none], [zi x2.1, zr (some (6, 137))], x2.2) (by decide +kernel) rfl ?_
  refine zG_callV (idx := 123) (R := (fun a => (some (zi a), x2.2))) (as := [zi x2.1]) (rest := []) (n := 1) (fun a ha => c_Program_costOfTried hl ha) (by decide +kernel) ⟨ok_Program_costOfTried, by decide, by decide +kernel⟩ rfl w_262 w_263 w_264 (by decide) rfl rfl rfl (Nat.le_of_ble_eq_true rfl) fun x3 => ?_
  refine zG_run t_Program [(.istore 4, 0, 0), (.aload_n 0, 0, 0), (.iload_n 3, 0, 0)] (24, [some (zr (some (6, 137))), some (zr (some (3, o1))), some (zi v2), some (zi x2.1), some (zi x3), none, none], [zi x2.1, zr (some (6, 137))], x2.2) (by decide +kernel) rfl ?_
  refine zG_callV (idx := 127) (R := (fun a => (none, a))) (as := [zi x2.1]) (rest := []) (n := 1) (fun a ha => c_Program_keepTried hl ha) (by decide +kernel) ⟨ok_Program_keepTried, by decide, by decide +kernel⟩ rfl w_265 w_266 w_267 (by decide) rfl rfl rfl (Nat.le_of_ble_eq_true rfl) fun x4 => ?_
  refine zG_run t_Program [(.iconst 0, 0, 0), (.istore 5, 0, 0)] (30, [some (zr (some (6, 137))), some (zr (some (3, o1))), some (zi v2), some (zi x2.1), some (zi x3), some (zi 0), none], [], x4) (by decide +kernel) rfl ?_
  refine zG_forget (L' := [some (zr (some (6, 137))), none, none, some (zi x2.1), some (zi x3), some (zi 0), none]) (And.intro rfl (And.intro rfl (And.intro rfl (And.intro rfl trivial)))) ?_
  refine zG_bind (fun y : Int32 × zH => (75, [none, none, none, none, some (zi y.1), none, none], [], y.2)) (zG_iter (fun s : Int32 × Int32 × zH => (30, [some (zr (some (6, 137))), none, none, some (zi x2.1), some (zi s.1), some (zi s.2.1), none], [], s.2.2)) fun s => k_Program_arrange_b30 hl) (fun y12 => ?_)
  refine zG_run t_Program [(.iload 4, 0, 0)] (77, [none, none, none, none, some (zi y12.1), none, none], [zi y12.1], y12.2) (by decide +kernel) rfl ?_
  exact zG_ret (r := some (zi y12.1)) rfl (zrd_i rfl (by decide +kernel))
theorem c_Program_arrange {l : Launch} {X : zX} (hl : l.stackTraces = false) {o1 : Nat} {h : zH} {v2 : Int32} {x : Int32 × zH} (hx : f_Program_arrange o1 h v2 = some x) : zCt l (true, 2) 2 m_Program_arrange X 0 0 [zr (some (6, 137)), zr (some (3, o1)), zi v2] h ((fun a => (.inl (some (zi a.1)), a.2) : Int32 × zH → zF) x) :=
  zG_ct (R := fun a => (.inl (some (zi a.1)), a.2)) (x := x) ok_Program_arrange hl (Nat.le_of_ble_eq_true rfl) hx (k_Program_arrange hl)
def m_Main_order : zM := (({ cls := "ScanPacker", name := "order", desc := "(II)I" } : Jvm.MethodName), prog_1_method_14_code, 4, (Option.some Jvm.ClassFile.FieldType.int), [], 7)
theorem ok_Main_order : zMok m_Main_order := ⟨by decide +kernel, zW_of 1236 (by decide +kernel) (by decide +kernel), zW_of 122 (by decide +kernel) (by decide +kernel), by decide, by decide +kernel, by decide +kernel⟩
set_option maxRecDepth 20000 in
theorem k_Main_order {l : Launch} {X : zX} (hl : l.stackTraces = false) {h : zH} {v1 : Int32} {v2 : Int32} : zGl l m_Main_order X 1 6 (f_Main_order h v1 v2) (0, [some (zr (some (0, 0))), some (zi v1), some (zi v2), none], [], h) (fun x => .inr ((Sum.elim (fun a => (.inl (some (zi a.1)), a.2)) (fun q => (.inr q.1, q.2)) : (Int32 × zH) ⊕ (Nat × zH) → zF) x)) := by
  unfold f_Main_order
  refine zG_run t_Main [(.aload_n 0, 0, 0), (.iload_n 1, 0, 0), (.iload_n 2, 0, 0)] (3, [some (zr (some (0, 0))), some (zi v1), some (zi v2), none], [zi v2, zi v1, zr (some (0, 0))], h) (by decide +kernel) rfl ?_
  refine zG_mono (bc' := 0 + 1) (bs' := 0 + 6) (by decide) (by decide) ?_
  refine zG_callX (idx := 165) (R := (fun a => none)) (as := [zi v1, zi v2]) (rest := []) (n := 2) (fun a h1 ha => c_Main_needCell hl ha) (fun k h1 ha => c_Main_needCell hl ha) (by decide +kernel) ⟨ok_Main_needCell, by decide, by decide +kernel⟩ rfl rfl w_230 w_231 w_232 (by decide) rfl rfl rfl (Nat.le_of_ble_eq_true rfl) (fun _ => rfl) fun x1 => ?_
  refine zG_run t_Main [(.aload_n 0, 0, 0)] (7, [some (zr (some (0, 0))), some (zi v1), some (zi v2), none], [zr (some (0, 0))], x1.2) (by decide +kernel) rfl ?_
  refine zG_callV (idx := 225) (R := (fun a => (none, a))) (as := []) (rest := []) (n := 0) (fun a ha => c_Main_planNow hl ha) (by decide +kernel) ⟨ok_Main_planNow, by decide, by decide +kernel⟩ rfl w_204 w_205 w_206 (by decide) rfl rfl rfl (Nat.le_of_ble_eq_true rfl) fun x2 => ?_
  refine zG_run t_Main [(.aload_n 0, 0, 0), (.getfield 37, 0, 4), (.aload_n 0, 0, 0), (.getfield 19, 0, 1)] (18, [some (zr (some (0, 0))), some (zi v1), some (zi v2), none], [zr (x2.2.2.1 0 1), zr (some (6, 137))], x2) (by decide +kernel) rfl ?_
  refine zG_dyn fun w3 _ => ?_
  refine zG_run t_Main [(.iload_n 1, 0, 0)] (19, [some (zr (some (0, 0))), some (zi v1), some (zi v2), none], [zi v1, zr (some (3, w3)), zr (some (6, 137))], x2) (by decide +kernel) rfl ?_
  refine zG_callV (idx := 244) (R := (fun a => (some (zi a.1), a.2))) (as := [zr (some (3, w3)), zi v1]) (rest := []) (n := 2) (fun a ha => c_Program_arrange hl ha) (by decide +kernel) ⟨ok_Program_arrange, by decide, by decide +kernel⟩ rfl w_274 w_275 w_276 (by decide) rfl rfl rfl (Nat.le_of_ble_eq_true rfl) fun x4 => ?_
  refine zG_run t_Main [(.istore_n 3, 0, 0), (.iload_n 2, 0, 0), (.iconst (-1), 0, 0)] (25, [some (zr (some (0, 0))), some (zi v1), some (zi v2), some (zi x4.1)], [zi (-1), zi v2], x4.2) (by decide +kernel) rfl ?_
  refine zG_icmp (op := .ne) (off := 7) (tgt := 32) (by decide +kernel) rfl Iff.rfl (fun c6 => ?_) (fun c6 => ?_)
  · refine zG_run t_Main [(.aload_n 0, 0, 0), (.getfield 37, 0, 4), (.getfield 247, 6, 9), (.iload_n 2, 0, 0)] (40, [some (zr (some (0, 0))), some (zi v1), some (zi v2), some (zi x4.1)], [zi v2, zr (some (47, 141))], x4.2) (by decide +kernel) rfl ?_
    refine zG_ald (v := zi (x4.2.1 141 v2.toNatClampNeg)) (n := 6) rfl (by decide +kernel) rfl rfl fun hb5 => ?_
    exact zG_ret (r := some (zi (x4.2.1 141 v2.toNatClampNeg))) rfl (zrd_i rfl (by decide +kernel))
  · refine zG_run t_Main [(.iload_n 3, 0, 0), (.goto 12, 0, 0)] (41, [some (zr (some (0, 0))), some (zi v1), some (zi v2), some (zi x4.1)], [zi x4.1], x4.2) (by decide +kernel) rfl ?_
    exact zG_ret (r := some (zi x4.1)) rfl (zrd_i rfl (by decide +kernel))
theorem c_Main_order {l : Launch} {X : zX} (hl : l.stackTraces = false) {h : zH} {v1 : Int32} {v2 : Int32} {x : (Int32 × zH) ⊕ (Nat × zH)} (hx : f_Main_order h v1 v2 = some x) : zCt l (true, 2) 2 m_Main_order X 1 6 [zr (some (0, 0)), zi v1, zi v2] h ((Sum.elim (fun a => (.inl (some (zi a.1)), a.2)) (fun q => (.inr q.1, q.2)) : (Int32 × zH) ⊕ (Nat × zH) → zF) x) :=
  zG_ct (R := Sum.elim (fun a => (.inl (some (zi a.1)), a.2)) (fun q => (.inr q.1, q.2))) (x := x) ok_Main_order hl (Nat.le_of_ble_eq_true rfl) hx (k_Main_order hl)
def m_Math_max : zM := (({ cls := "java/lang/Math", name := "max", desc := "(II)I" } : Jvm.MethodName), prog_21_method_65_code, 2, (Option.some Jvm.ClassFile.FieldType.int), [], 1)
theorem ok_Math_max : zMok m_Math_max := ⟨by decide +kernel, zW_of 790 (by decide +kernel) (by decide +kernel), zW_of 139 (by decide +kernel) (by decide +kernel), by decide, by decide +kernel, by decide +kernel⟩
set_option maxRecDepth 20000 in
theorem k_Math_max {l : Launch} {X : zX} (hl : l.stackTraces = false) {h : zH} {v0 : Int32} {v1 : Int32} : zGl l m_Math_max X 0 0 (f_Math_max v0 v1) (0, [some (zi v0), some (zi v1)], [], h) (fun x => .inr ((fun a => (.inl (some (zi a)), h) : Int32 → zF) x)) := by
  unfold f_Math_max
  refine zG_run t_Math [(.iload_n 0, 0, 0), (.iload_n 1, 0, 0)] (2, [some (zi v0), some (zi v1)], [zi v1, zi v0], h) (by decide +kernel) rfl ?_
  refine zG_icmp (op := .lt) (off := 7) (tgt := 9) (by decide +kernel) rfl Iff.rfl (fun c1 => ?_) (fun c1 => ?_)
  · refine zG_run t_Math [(.iload_n 1, 0, 0)] (10, [some (zi v0), some (zi v1)], [zi v1], h) (by decide +kernel) rfl ?_
    exact zG_ret (r := some (zi v1)) rfl (zrd_i rfl (by decide +kernel))
  · refine zG_run t_Math [(.iload_n 0, 0, 0), (.goto 4, 0, 0)] (10, [some (zi v0), some (zi v1)], [zi v0], h) (by decide +kernel) rfl ?_
    exact zG_ret (r := some (zi v0)) rfl (zrd_i rfl (by decide +kernel))
theorem c_Math_max {l : Launch} {X : zX} (hl : l.stackTraces = false) {h : zH} {v0 : Int32} {v1 : Int32} {x : Int32} (hx : f_Math_max v0 v1 = some x) : zCt l (true, 2) 2 m_Math_max X 0 0 [zi v0, zi v1] h ((fun a => (.inl (some (zi a)), h) : Int32 → zF) x) :=
  zG_ct (R := fun a => (.inl (some (zi a)), h)) (x := x) ok_Math_max hl (Nat.le_of_ble_eq_true rfl) hx (k_Math_max hl)
def m_Packs_agreesWith : zM := (({ cls := "ScanPacker$Packs", name := "agreesWith", desc := "(LScanPacker$Catalog;LScanPacker$State;II)Z" } : Jvm.MethodName), prog_5_method_5_code, 10, (Option.some Jvm.ClassFile.FieldType.boolean), [], 1)
theorem ok_Packs_agreesWith : zMok m_Packs_agreesWith := ⟨by decide +kernel, zW_of 1289 (by decide +kernel) (by decide +kernel), zW_of 129 (by decide +kernel) (by decide +kernel), by decide, by decide +kernel, by decide +kernel⟩
set_option maxRecDepth 20000 in
theorem k_Packs_agreesWith_b11 {l : Launch} {X : zX} (hl : l.stackTraces = false) {o2 : Nat} {h : zH} {v3 : Int32} {v4 : Int32} {v5 : Int32} {v6 : Int32} : zGl l m_Packs_agreesWith X 0 0 (f_Packs_agreesWith_b11 o2 h v3 v4 v5 v6) (11, [some (zr (some (4, 150))), some (zr (some (1, 74))), some (zr (some (8, o2))), some (zi v3), some (zi v4), some (zi v5), some (zi v6), none, none, none], [], h) (Sum.elim (fun s : Int32 => .inl (11, [some (zr (some (4, 150))), some (zr (some (1, 74))), some (zr (some (8, o2))), some (zi v3), some (zi v4), some (zi v5), some (zi s), none, none, none], [], h)) (Sum.elim (fun y : Unit => .inl (80, [none, none, none, none, none, none, none, none, none, none], [], h)) (fun y : Unit => .inl (88, [none, none, none, none, none, none, none, none, none, none], [], h)))) := by
  unfold f_Packs_agreesWith_b11
  refine zG_run t_Packs [(.iload 6, 0, 0), (.iload_n 3, 0, 0)] (14, [some (zr (some (4, 150))), some (zr (some (1, 74))), some (zr (some (8, o2))), some (zi v3), some (zi v4), some (zi v5), some (zi v6), none, none, none], [zi v3, zi v6], h) (by decide +kernel) rfl ?_
  refine zG_icmp (op := .ge) (off := 74) (tgt := 88) (by decide +kernel) rfl Iff.rfl (fun c10 => ?_) (fun c10 => ?_)
  · exact zG_end (L' := [none, none, none, none, none, none, none, none, none, none]) rfl (trivial)
  · refine zG_run t_Packs [(.aload_n 2, 0, 0), (.getfield 40, 8, 6), (.iload 6, 0, 0)] (23, [some (zr (some (4, 150))), some (zr (some (1, 74))), some (zr (some (8, o2))), some (zi v3), some (zi v4), some (zi v5), some (zi v6), none, none, none], [zi v6, zr (some (54, (o2 + 1)))], h) (by decide +kernel) rfl ?_
    refine zG_ald (v := zi (h.1 (o2 + 1) v6.toNatClampNeg)) (n := 8) rfl (by decide +kernel) rfl rfl fun hb2 => ?_
    refine zG_run t_Packs [(.istore 7, 0, 0), (.aload_n 1, 0, 0), (.getfield 43, 1, 6), (.iload 5, 0, 0)] (32, [some (zr (some (4, 150))), some (zr (some (1, 74))), some (zr (some (8, o2))), some (zi v3), some (zi v4), some (zi v5), some (zi v6), some (zi (h.1 (o2 + 1) v6.toNatClampNeg)), none, none], [zi v5, zr (some (35, 122))], h) (by decide +kernel) rfl ?_
    refine zG_ald (v := zi (h.1 122 v5.toNatClampNeg)) (n := 44) rfl (by decide +kernel) rfl rfl fun hb3 => ?_
    refine zG_run t_Packs [(.aload_n 1, 0, 0), (.getfield 43, 1, 6), (.iload 7, 0, 0)] (39, [some (zr (some (4, 150))), some (zr (some (1, 74))), some (zr (some (8, o2))), some (zi v3), some (zi v4), some (zi v5), some (zi v6), some (zi (h.1 (o2 + 1) v6.toNatClampNeg)), none, none], [zi (h.1 (o2 + 1) v6.toNatClampNeg), zr (some (35, 122)), zi (h.1 122 v5.toNatClampNeg)], h) (by decide +kernel) rfl ?_
    refine zG_ald (v := zi (h.1 122 (h.1 (o2 + 1) v6.toNatClampNeg).toNatClampNeg)) (n := 44) rfl (by decide +kernel) rfl rfl fun hb4 => ?_
    refine zG_run t_Packs [(.iand, 0, 0), (.istore 8, 0, 0), (.aload_n 1, 0, 0), (.getfield 48, 1, 7), (.iload 5, 0, 0)] (49, [some (zr (some (4, 150))), some (zr (some (1, 74))), some (zr (some (8, o2))), some (zi v3), some (zi v4), some (zi v5), some (zi v6), some (zi (h.1 (o2 + 1) v6.toNatClampNeg)), some (zi ((h.1 122 v5.toNatClampNeg) &&& (h.1 122 (h.1 (o2 + 1) v6.toNatClampNeg).toNatClampNeg))), none], [zi v5, zr (some (36, 123))], h) (by decide +kernel) rfl ?_
    refine zG_ald (v := zi (h.1 123 v5.toNatClampNeg)) (n := 44) rfl (by decide +kernel) rfl rfl fun hb5 => ?_
    refine zG_run t_Packs [(.aload_n 1, 0, 0), (.getfield 48, 1, 7), (.iload 7, 0, 0)] (56, [some (zr (some (4, 150))), some (zr (some (1, 74))), some (zr (some (8, o2))), some (zi v3), some (zi v4), some (zi v5), some (zi v6), some (zi (h.1 (o2 + 1) v6.toNatClampNeg)), some (zi ((h.1 122 v5.toNatClampNeg) &&& (h.1 122 (h.1 (o2 + 1) v6.toNatClampNeg).toNatClampNeg))), none], [zi (h.1 (o2 + 1) v6.toNatClampNeg), zr (some (36, 123)), zi (h.1 123 v5.toNatClampNeg)], h) (by decide +kernel) rfl ?_
    refine zG_ald (v := zi (h.1 123 (h.1 (o2 + 1) v6.toNatClampNeg).toNatClampNeg)) (n := 44) rfl (by decide +kernel) rfl rfl fun hb6 => ?_
    refine zG_run t_Packs [(.ixor, 0, 0), (.istore 9, 0, 0), (.aload_n 0, 0, 0), (.getfield 9, 4, 0), (.iload 6, 0, 0)] (66, [some (zr (some (4, 150))), some (zr (some (1, 74))), some (zr (some (8, o2))), some (zi v3), some (zi v4), some (zi v5), some (zi v6), some (zi (h.1 (o2 + 1) v6.toNatClampNeg)), some (zi ((h.1 122 v5.toNatClampNeg) &&& (h.1 122 (h.1 (o2 + 1) v6.toNatClampNeg).toNatClampNeg))), some (zi ((h.1 123 v5.toNatClampNeg) ^^^ (h.1 123 (h.1 (o2 + 1) v6.toNatClampNeg).toNatClampNeg)))], [zi v6, zr (some (51, 151))], h) (by decide +kernel) rfl ?_
    refine zG_ald (v := zi (h.1 151 v6.toNatClampNeg)) (n := 8) rfl (by decide +kernel) rfl rfl fun hb7 => ?_
    refine zG_run t_Packs [(.iload 4, 0, 0)] (69, [some (zr (some (4, 150))), some (zr (some (1, 74))), some (zr (some (8, o2))), some (zi v3), some (zi v4), some (zi v5), some (zi v6), some (zi (h.1 (o2 + 1) v6.toNatClampNeg)), some (zi ((h.1 122 v5.toNatClampNeg) &&& (h.1 122 (h.1 (o2 + 1) v6.toNatClampNeg).toNatClampNeg))), some (zi ((h.1 123 v5.toNatClampNeg) ^^^ (h.1 123 (h.1 (o2 + 1) v6.toNatClampNeg).toNatClampNeg)))], [zi v4, zi (h.1 151 v6.toNatClampNeg)], h) (by decide +kernel) rfl ?_
    refine zG_icmp (op := .ne) (off := 13) (tgt := 82) (by decide +kernel) rfl Iff.rfl (fun c9 => ?_) (fun c9 => ?_)
    · refine zG_run t_Packs [(.iinc 6 1, 0, 0), (.goto (-74), 0, 0)] (11, [some (zr (some (4, 150))), some (zr (some (1, 74))), some (zr (some (8, o2))), some (zi v3), some (zi v4), some (zi v5), some (zi (v6 + 1)), some (zi (h.1 (o2 + 1) v6.toNatClampNeg)), some (zi ((h.1 122 v5.toNatClampNeg) &&& (h.1 122 (h.1 (o2 + 1) v6.toNatClampNeg).toNatClampNeg))), some (zi ((h.1 123 v5.toNatClampNeg) ^^^ (h.1 123 (h.1 (o2 + 1) v6.toNatClampNeg).toNatClampNeg)))], [], h) (by decide +kernel) rfl ?_
      exact zG_end (L' := [some (zr (some (4, 150))), some (zr (some (1, 74))), some (zr (some (8, o2))), some (zi v3), some (zi v4), some (zi v5), some (zi (v6 + 1)), none, none, none]) rfl (And.intro rfl (And.intro rfl (And.intro rfl (And.intro rfl (And.intro rfl (And.intro rfl (And.intro rfl trivial)))))))
    · refine zG_run t_Packs [(.iload 9, 0, 0), (.iload 8, 0, 0), (.iand, 0, 0)] (77, [some (zr (some (4, 150))), some (zr (some (1, 74))), some (zr (some (8, o2))), some (zi v3), some (zi v4), some (zi v5), some (zi v6), some (zi (h.1 (o2 + 1) v6.toNatClampNeg)), some (zi ((h.1 122 v5.toNatClampNeg) &&& (h.1 122 (h.1 (o2 + 1) v6.toNatClampNeg).toNatClampNeg))), some (zi ((h.1 123 v5.toNatClampNeg) ^^^ (h.1 123 (h.1 (o2 + 1) v6.toNatClampNeg).toNatClampNeg)))], [zi (((h.1 123 v5.toNatClampNeg) ^^^ (h.1 123 (h.1 (o2 + 1) v6.toNatClampNeg).toNatClampNeg)) &&& ((h.1 122 v5.toNatClampNeg) &&& (h.1 122 (h.1 (o2 + 1) v6.toNatClampNeg).toNatClampNeg)))], h) (by decide +kernel) rfl ?_
      refine zG_if (op := .eq) (off := 5) (tgt := 82) (by decide +kernel) rfl Iff.rfl (fun c8 => ?_) (fun c8 => ?_)
      · refine zG_run t_Packs [(.iinc 6 1, 0, 0), (.goto (-74), 0, 0)] (11, [some (zr (some (4, 150))), some (zr (some (1, 74))), some (zr (some (8, o2))), some (zi v3), some (zi v4), some (zi v5), some (zi (v6 + 1)), some (zi (h.1 (o2 + 1) v6.toNatClampNeg)), some (zi ((h.1 122 v5.toNatClampNeg) &&& (h.1 122 (h.1 (o2 + 1) v6.toNatClampNeg).toNatClampNeg))), some (zi ((h.1 123 v5.toNatClampNeg) ^^^ (h.1 123 (h.1 (o2 + 1) v6.toNatClampNeg).toNatClampNeg)))], [], h) (by decide +kernel) rfl ?_
        exact zG_end (L' := [some (zr (some (4, 150))), some (zr (some (1, 74))), some (zr (some (8, o2))), some (zi v3), some (zi v4), some (zi v5), some (zi (v6 + 1)), none, none, none]) rfl (And.intro rfl (And.intro rfl (And.intro rfl (And.intro rfl (And.intro rfl (And.intro rfl (And.intro rfl trivial)))))))
      · exact zG_end (L' := [none, none, none, none, none, none, none, none, none, none]) rfl (trivial)
set_option maxRecDepth 20000 in
theorem k_Packs_agreesWith {l : Launch} {X : zX} (hl : l.stackTraces = false) {o2 : Nat} {h : zH} {v3 : Int32} {v4 : Int32} : zGl l m_Packs_agreesWith X 0 0 (f_Packs_agreesWith o2 h v3 v4) (0, [some (zr (some (4, 150))), some (zr (some (1, 74))), some (zr (some (8, o2))), some (zi v3), some (zi v4), none, none, none, none, none], [], h) (fun x => .inr ((fun a => (.inl (some (zi a)), h) : Int32 → zF) x)) := by
  unfold f_Packs_agreesWith
  refine zG_run t_Packs [(.aload_n 2, 0, 0), (.getfield 40, 8, 6), (.iload_n 3, 0, 0)] (5, [some (zr (some (4, 150))), some (zr (some (1, 74))), some (zr (some (8, o2))), some (zi v3), some (zi v4), none, none, none, none, none], [zi v3, zr (some (54, (o2 + 1)))], h) (by decide +kernel) rfl ?_
  refine zG_ald (v := zi (h.1 (o2 + 1) v3.toNatClampNeg)) (n := 8) rfl (by decide +kernel) rfl rfl fun hb1 => ?_
  refine zG_run t_Packs [(.istore 5, 0, 0), (.iconst 0, 0, 0), (.istore 6, 0, 0)] (11, [some (zr (some (4, 150))), some (zr (some (1, 74))), some (zr (some (8, o2))), some (zi v3), some (zi v4), some (zi (h.1 (o2 + 1) v3.toNatClampNeg)), some (zi 0), none, none, none], [], h) (by decide +kernel) rfl ?_
  refine zG_forget (L' := [some (zr (some (4, 150))), some (zr (some (1, 74))), some (zr (some (8, o2))), some (zi v3), some (zi v4), some (zi (h.1 (o2 + 1) v3.toNatClampNeg)), some (zi 0), none, none, none]) (And.intro rfl (And.intro rfl (And.intro rfl (And.intro rfl (And.intro rfl (And.intro rfl (And.intro rfl trivial))))))) ?_
  refine zG_bind2 (fun y : Unit => (80, [none, none, none, none, none, none, none, none, none, none], [], h)) (fun y : Unit => (88, [none, none, none, none, none, none, none, none, none, none], [], h)) (zG_iter (fun s : Int32 => (11, [some (zr (some (4, 150))), some (zr (some (1, 74))), some (zr (some (8, o2))), some (zi v3), some (zi v4), some (zi (h.1 (o2 + 1) v3.toNatClampNeg)), some (zi s), none, none, none], [], h)) fun s => k_Packs_agreesWith_b11 hl) (fun y12 => ?_) (fun y13 => ?_)
  · refine zG_run t_Packs [(.iconst 0, 0, 0)] (81, [none, none, none, none, none, none, none, none, none, none], [zi 0], h) (by decide +kernel) rfl ?_
    exact zG_ret (r := some (zi 0)) rfl (zrd_z rfl (by decide +kernel) rfl)
  · refine zG_run t_Packs [(.iconst 1, 0, 0)] (89, [none, none, none, none, none, none, none, none, none, none], [zi 1], h) (by decide +kernel) rfl ?_
    exact zG_ret (r := some (zi 1)) rfl (zrd_z rfl (by decide +kernel) rfl)
theorem c_Packs_agreesWith {l : Launch} {X : zX} (hl : l.stackTraces = false) {o2 : Nat} {h : zH} {v3 : Int32} {v4 : Int32} {x : Int32} (hx : f_Packs_agreesWith o2 h v3 v4 = some x) : zCt l (true, 2) 2 m_Packs_agreesWith X 0 0 [zr (some (4, 150)), zr (some (1, 74)), zr (some (8, o2)), zi v3, zi v4] h ((fun a => (.inl (some (zi a)), h) : Int32 → zF) x) :=
  zG_ct (R := fun a => (.inl (some (zi a)), h)) (x := x) ok_Packs_agreesWith hl (Nat.le_of_ble_eq_true rfl) hx (k_Packs_agreesWith hl)
def m_Packs_nextGroup : zM := (({ cls := "ScanPacker$Packs", name := "nextGroup", desc := "(LScanPacker$Catalog;LScanPacker$State;II)I" } : Jvm.MethodName), prog_5_method_4_code, 7, (Option.some Jvm.ClassFile.FieldType.int), [], 2)
theorem ok_Packs_nextGroup : zMok m_Packs_nextGroup := ⟨by decide +kernel, zW_of 1284 (by decide +kernel) (by decide +kernel), zW_of 129 (by decide +kernel) (by decide +kernel), by decide, by decide +kernel, by decide +kernel⟩
set_option maxRecDepth 20000 in
theorem k_Packs_nextGroup_b6 {l : Launch} {X : zX} (hl : l.stackTraces = false) {o2 : Nat} {h : zH} {v3 : Int32} {v4 : Int32} {v5 : Int32} {v6 : Int32} : zGl l m_Packs_nextGroup X 0 0 (f_Packs_nextGroup_b6 o2 h v3 v4 v5 v6) (6, [some (zr (some (4, 150))), some (zr (some (1, 74))), some (zr (some (8, o2))), some (zi v3), some (zi v4), some (zi v5), some (zi v6)], [], h) (Sum.elim (fun s : Int32 × Int32 => .inl (6, [some (zr (some (4, 150))), some (zr (some (1, 74))), some (zr (some (8, o2))), some (zi v3), some (zi v4), some (zi s.1), some (zi s.2)], [], h)) (fun y : Int32 => .inl (34, [some (zr (some (4, 150))), some (zr (some (1, 74))), some (zr (some (8, o2))), some (zi v3), some (zi v4), some (zi y), none], [], h))) := by
  unfold f_Packs_nextGroup_b6
  refine zG_run t_Packs [(.iload 6, 0, 0), (.iload_n 3, 0, 0)] (9, [some (zr (some (4, 150))), some (zr (some (1, 74))), some (zr (some (8, o2))), some (zi v3), some (zi v4), some (zi v5), some (zi v6)], [zi v3, zi v6], h) (by decide +kernel) rfl ?_
  refine zG_icmp (op := .ge) (off := 25) (tgt := 34) (by decide +kernel) rfl Iff.rfl (fun c3 => ?_) (fun c3 => ?_)
  · exact zG_end (L' := [some (zr (some (4, 150))), some (zr (some (1, 74))), some (zr (some (8, o2))), some (zi v3), some (zi v4), some (zi v5), none]) rfl (And.intro rfl (And.intro rfl (And.intro rfl (And.intro rfl (And.intro rfl (And.intro rfl trivial))))))
  · refine zG_run t_Packs [(.iload 5, 0, 0), (.aload_n 0, 0, 0), (.getfield 9, 4, 0), (.iload 6, 0, 0)] (20, [some (zr (some (4, 150))), some (zr (some (1, 74))), some (zr (some (8, o2))), some (zi v3), some (zi v4), some (zi v5), some (zi v6)], [zi v6, zr (some (51, 151)), zi v5], h) (by decide +kernel) rfl ?_
    refine zG_ald (v := zi (h.1 151 v6.toNatClampNeg)) (n := 8) rfl (by decide +kernel) rfl rfl fun hb1 => ?_
    refine zG_run t_Packs [(.iconst 1, 0, 0), (.iadd, 0, 0)] (23, [some (zr (some (4, 150))), some (zr (some (1, 74))), some (zr (some (8, o2))), some (zi v3), some (zi v4), some (zi v5), some (zi v6)], [zi ((h.1 151 v6.toNatClampNeg) + 1), zi v5], h) (by decide +kernel) rfl ?_
    refine zG_callS (idx := 30) (R := (fun a => (some (zi a), h))) (as := [zi v5, zi ((h.1 151 v6.toNatClampNeg) + 1)]) (rest := []) (n := 2) (fun a ha => c_Math_max hl ha) (by decide +kernel) ⟨ok_Math_max, by decide, by decide +kernel⟩ rfl w_278 w_279 rfl rfl (Nat.le_of_ble_eq_true rfl) fun x2 => ?_
    refine zG_run t_Packs [(.istore 5, 0, 0), (.iinc 6 1, 0, 0), (.goto (-25), 0, 0)] (6, [some (zr (some (4, 150))), some (zr (some (1, 74))), some (zr (some (8, o2))), some (zi v3), some (zi v4), some (zi x2), some (zi (v6 + 1))], [], h) (by decide +kernel) rfl ?_
    exact zG_end (L' := [some (zr (some (4, 150))), some (zr (some (1, 74))), some (zr (some (8, o2))), some (zi v3), some (zi v4), some (zi x2), some (zi (v6 + 1))]) rfl (And.intro rfl (And.intro rfl (And.intro rfl (And.intro rfl (And.intro rfl (And.intro rfl (And.intro rfl trivial)))))))
set_option maxRecDepth 20000 in
theorem k_Packs_nextGroup_b44 {l : Launch} {X : zX} (hl : l.stackTraces = false) {o2 : Nat} {h : zH} {v3 : Int32} {v4 : Int32} {v5 : Int32} {v6 : Int32} : zGl l m_Packs_nextGroup X 0 0 (f_Packs_nextGroup_b44 o2 h v3 v4 v5 v6) (44, [some (zr (some (4, 150))), some (zr (some (1, 74))), some (zr (some (8, o2))), some (zi v3), some (zi v4), some (zi v5), some (zi v6)], [], h) (Sum.elim (fun s : Int32 => .inl (44, [some (zr (some (4, 150))), some (zr (some (1, 74))), some (zr (some (8, o2))), some (zi v3), some (zi v4), some (zi v5), some (zi s)], [], h)) (Sum.elim (fun y : Int32 => .inl (70, [none, none, none, none, none, none, some (zi y)], [], h)) (fun y : Unit => .inl (79, [none, none, none, none, none, none, none], [], h)))) := by
  unfold f_Packs_nextGroup_b44
  refine zG_run t_Packs [(.iload 6, 0, 0), (.iload 5, 0, 0)] (48, [some (zr (some (4, 150))), some (zr (some (1, 74))), some (zr (some (8, o2))), some (zi v3), some (zi v4), some (zi v5), some (zi v6)], [zi v5, zi v6], h) (by decide +kernel) rfl ?_
  refine zG_icmp (op := .gt) (off := 31) (tgt := 79) (by decide +kernel) rfl Iff.rfl (fun c10 => ?_) (fun c10 => ?_)
  · exact zG_end (L' := [none, none, none, none, none, none, none]) rfl (trivial)
  · refine zG_run t_Packs [(.iload 6, 0, 0), (.iload 4, 0, 0)] (55, [some (zr (some (4, 150))), some (zr (some (1, 74))), some (zr (some (8, o2))), some (zi v3), some (zi v4), some (zi v5), some (zi v6)], [zi v4, zi v6], h) (by decide +kernel) rfl ?_
    refine zG_icmp (op := .ge) (off := 24) (tgt := 79) (by decide +kernel) rfl Iff.rfl (fun c9 => ?_) (fun c9 => ?_)
    · exact zG_end (L' := [none, none, none, none, none, none, none]) rfl (trivial)
    · refine zG_run t_Packs [(.aload_n 0, 0, 0), (.aload_n 1, 0, 0), (.aload_n 2, 0, 0), (.iload_n 3, 0, 0), (.iload 6, 0, 0)] (64, [some (zr (some (4, 150))), some (zr (some (1, 74))), some (zr (some (8, o2))), some (zi v3), some (zi v4), some (zi v5), some (zi v6)], [zi v6, zi v3, zr (some (8, o2)), zr (some (1, 74)), zr (some (4, 150))], h) (by decide +kernel) rfl ?_
      refine zG_callV (idx := 36) (R := (fun a => (some (zi a), h))) (as := [zr (some (1, 74)), zr (some (8, o2)), zi v3, zi v6]) (rest := []) (n := 4) (fun a ha => c_Packs_agreesWith hl ha) (by decide +kernel) ⟨ok_Packs_agreesWith, by decide, by decide +kernel⟩ rfl w_280 w_281 w_282 (by decide) rfl rfl rfl (Nat.le_of_ble_eq_true rfl) fun x7 => ?_
      refine zG_if (op := .eq) (off := 6) (tgt := 73) (by decide +kernel) rfl Iff.rfl (fun c8 => ?_) (fun c8 => ?_)
      · refine zG_run t_Packs [(.iinc 6 1, 0, 0), (.goto (-32), 0, 0)] (44, [some (zr (some (4, 150))), some (zr (some (1, 74))), some (zr (some (8, o2))), some (zi v3), some (zi v4), some (zi v5), some (zi (v6 + 1))], [], h) (by decide +kernel) rfl ?_
        exact zG_end (L' := [some (zr (some (4, 150))), some (zr (some (1, 74))), some (zr (some (8, o2))), some (zi v3), some (zi v4), some (zi v5), some (zi (v6 + 1))]) rfl (And.intro rfl (And.intro rfl (And.intro rfl (And.intro rfl (And.intro rfl (And.intro rfl (And.intro rfl trivial)))))))
      · exact zG_end (L' := [none, none, none, none, none, none, some (zi v6)]) rfl (And.intro rfl trivial)
set_option maxRecDepth 20000 in
theorem k_Packs_nextGroup {l : Launch} {X : zX} (hl : l.stackTraces = false) {o2 : Nat} {h : zH} {v3 : Int32} {v4 : Int32} : zGl l m_Packs_nextGroup X 0 0 (f_Packs_nextGroup o2 h v3 v4) (0, [some (zr (some (4, 150))), some (zr (some (1, 74))), some (zr (some (8, o2))), some (zi v3), some (zi v4), none, none], [], h) (fun x => .inr ((fun a => (.inl (some (zi a)), h) : Int32 → zF) x)) := by
  unfold f_Packs_nextGroup
  refine zG_run t_Packs [(.iconst 0, 0, 0), (.istore 5, 0, 0), (.iconst 0, 0, 0), (.istore 6, 0, 0)] (6, [some (zr (some (4, 150))), some (zr (some (1, 74))), some (zr (some (8, o2))), some (zi v3), some (zi v4), some (zi 0), some (zi 0)], [], h) (by decide +kernel) rfl ?_
  refine zG_forget (L' := [some (zr (some (4, 150))), some (zr (some (1, 74))), some (zr (some (8, o2))), some (zi v3), some (zi v4), some (zi 0), some (zi 0)]) (And.intro rfl (And.intro rfl (And.intro rfl (And.intro rfl (And.intro rfl (And.intro rfl (And.intro rfl trivial))))))) ?_
  refine zG_bind (fun y : Int32 => (34, [some (zr (some (4, 150))), some (zr (some (1, 74))), some (zr (some (8, o2))), some (zi v3), some (zi v4), some (zi y), none], [], h)) (zG_iter (fun s : Int32 × Int32 => (6, [some (zr (some (4, 150))), some (zr (some (1, 74))), some (zr (some (8, o2))), some (zi v3), some (zi v4), some (zi s.1), some (zi s.2)], [], h)) fun s => k_Packs_nextGroup_b6 hl) (fun y5 => ?_)
  refine zG_run t_Packs [(.aload_n 0, 0, 0), (.getfield 9, 4, 0), (.iload_n 3, 0, 0)] (39, [some (zr (some (4, 150))), some (zr (some (1, 74))), some (zr (some (8, o2))), some (zi v3), some (zi v4), some (zi y5), none], [zi v3, zr (some (51, 151))], h) (by decide +kernel) rfl ?_
  refine zG_ald (v := zi (h.1 151 v3.toNatClampNeg)) (n := 8) rfl (by decide +kernel) rfl rfl fun hb6 => ?_
  refine zG_run t_Packs [(.iconst 1, 0, 0), (.iadd, 0, 0), (.istore 6, 0, 0)] (44, [some (zr (some (4, 150))), some (zr (some (1, 74))), some (zr (some (8, o2))), some (zi v3), some (zi v4), some (zi y5), some (zi ((h.1 151 v3.toNatClampNeg) + 1))], [], h) (by decide +kernel) rfl ?_
  refine zG_forget (L' := [some (zr (some (4, 150))), some (zr (some (1, 74))), some (zr (some (8, o2))), some (zi v3), some (zi v4), some (zi y5), some (zi ((h.1 151 v3.toNatClampNeg) + 1))]) (And.intro rfl (And.intro rfl (And.intro rfl (And.intro rfl (And.intro rfl (And.intro rfl (And.intro rfl trivial))))))) ?_
  refine zG_bind2 (fun y : Int32 => (70, [none, none, none, none, none, none, some (zi y)], [], h)) (fun y : Unit => (79, [none, none, none, none, none, none, none], [], h)) (zG_iter (fun s : Int32 => (44, [some (zr (some (4, 150))), some (zr (some (1, 74))), some (zr (some (8, o2))), some (zi v3), some (zi v4), some (zi y5), some (zi s)], [], h)) fun s => k_Packs_nextGroup_b44 hl) (fun y12 => ?_) (fun y13 => ?_)
  · refine zG_run t_Packs [(.iload 6, 0, 0)] (72, [none, none, none, none, none, none, some (zi y12)], [zi y12], h) (by decide +kernel) rfl ?_
    exact zG_ret (r := some (zi y12)) rfl (zrd_i rfl (by decide +kernel))
  · refine zG_run t_Packs [(.iconst (-1), 0, 0)] (80, [none, none, none, none, none, none, none], [zi (-1)], h) (by decide +kernel) rfl ?_
    exact zG_ret (r := some (zi (-1))) rfl (zrd_i rfl (by decide +kernel))
theorem c_Packs_nextGroup {l : Launch} {X : zX} (hl : l.stackTraces = false) {o2 : Nat} {h : zH} {v3 : Int32} {v4 : Int32} {x : Int32} (hx : f_Packs_nextGroup o2 h v3 v4 = some x) : zCt l (true, 2) 2 m_Packs_nextGroup X 0 0 [zr (some (4, 150)), zr (some (1, 74)), zr (some (8, o2)), zi v3, zi v4] h ((fun a => (.inl (some (zi a)), h) : Int32 → zF) x) :=
  zG_ct (R := fun a => (.inl (some (zi a)), h)) (x := x) ok_Packs_nextGroup hl (Nat.le_of_ble_eq_true rfl) hx (k_Packs_nextGroup hl)
def m_Packs_fitInto : zM := (({ cls := "ScanPacker$Packs", name := "fitInto", desc := "(LScanPacker$Catalog;LScanPacker$State;I)Z" } : Jvm.MethodName), prog_5_method_3_code, 6, (Option.some Jvm.ClassFile.FieldType.boolean), [], 3)
theorem ok_Packs_fitInto : zMok m_Packs_fitInto := ⟨by decide +kernel, zW_of 1279 (by decide +kernel) (by decide +kernel), zW_of 129 (by decide +kernel) (by decide +kernel), by decide, by decide +kernel, by decide +kernel⟩
set_option maxRecDepth 20000 in
theorem k_Packs_fitInto_b20 {l : Launch} {X : zX} (hl : l.stackTraces = false) {o2 : Nat} {h : zH} {v3 : Int32} {v4 : Int32} {v5 : Int32} : zGl l m_Packs_fitInto X 0 0 (f_Packs_fitInto_b20 o2 h v3 v4 v5) (20, [some (zr (some (4, 150))), some (zr (some (1, 74))), some (zr (some (8, o2))), some (zi v3), some (zi v4), some (zi v5)], [], h) (Sum.elim (fun s : Int32 × Int32 × zH => .inl (20, [some (zr (some (4, 150))), some (zr (some (1, 74))), some (zr (some (8, o2))), some (zi v3), some (zi s.1), some (zi s.2.1)], [], s.2.2)) (fun y : Int32 × zH => .inl (100, [none, none, some (zr (some (8, o2))), none, some (zi y.1), none], [], y.2))) := by
  unfold f_Packs_fitInto_b20
  refine zG_run t_Packs [(.iload 5, 0, 0)] (22, [some (zr (some (4, 150))), some (zr (some (1, 74))), some (zr (some (8, o2))), some (zi v3), some (zi v4), some (zi v5)], [zi v5], h) (by decide +kernel) rfl ?_
  refine zG_ldc (v := 1000000) (by decide +kernel) w_277 ?_
  refine zG_icmp (op := .ge) (off := 76) (tgt := 100) (by decide +kernel) rfl Iff.rfl (fun c11 => ?_) (fun c11 => ?_)
  · exact zG_end (L' := [none, none, some (zr (some (8, o2))), none, some (zi v4), none]) rfl (And.intro rfl (And.intro rfl trivial))
  · refine zG_run t_Packs [(.iload 4, 0, 0)] (29, [some (zr (some (4, 150))), some (zr (some (1, 74))), some (zr (some (8, o2))), some (zi v3), some (zi v4), some (zi v5)], [zi v4], h) (by decide +kernel) rfl ?_
    refine zG_if (op := .lt) (off := 71) (tgt := 100) (by decide +kernel) rfl Iff.rfl (fun c10 => ?_) (fun c10 => ?_)
    · exact zG_end (L' := [none, none, some (zr (some (8, o2))), none, some (zi v4), none]) rfl (And.intro rfl (And.intro rfl trivial))
    · refine zG_run t_Packs [(.iload 4, 0, 0), (.aload_n 2, 0, 0), (.getfield 15, 8, 5)] (38, [some (zr (some (4, 150))), some (zr (some (1, 74))), some (zr (some (8, o2))), some (zi v3), some (zi v4), some (zi v5)], [zi (h.1 o2 5), zi v4], h) (by decide +kernel) rfl ?_
      refine zG_icmp (op := .ge) (off := 62) (tgt := 100) (by decide +kernel) rfl Iff.rfl (fun c9 => ?_) (fun c9 => ?_)
      · exact zG_end (L' := [none, none, some (zr (some (8, o2))), none, some (zi v4), none]) rfl (And.intro rfl (And.intro rfl trivial))
      · refine zG_run t_Packs [(.aload_n 0, 0, 0), (.getfield 9, 4, 0), (.iload 4, 0, 0), (.aload_n 0, 0, 0), (.aload_n 1, 0, 0), (.aload_n 2, 0, 0), (.iload 4, 0, 0), (.iload_n 3, 0, 0)] (53, [some (zr (some (4, 150))), some (zr (some (1, 74))), some (zr (some (8, o2))), some (zi v3), some (zi v4), some (zi v5)], [zi v3, zi v4, zr (some (8, o2)), zr (some (1, 74)), zr (some (4, 150)), zi v4, zr (some (51, 151))], h) (by decide +kernel) rfl ?_
        refine zG_callV (idx := 26) (R := (fun a => (some (zi a), h))) (as := [zr (some (1, 74)), zr (some (8, o2)), zi v4, zi v3]) (rest := [zi v4, zr (some (51, 151))]) (n := 4) (fun a ha => c_Packs_nextGroup hl ha) (by decide +kernel) ⟨ok_Packs_nextGroup, by decide, by decide +kernel⟩ rfl w_283 w_284 w_285 (by decide) rfl rfl rfl (Nat.le_of_ble_eq_true rfl) fun x1 => ?_
        refine zG_guard fun hb3 => ?_
        refine zG_bind (fun y => (57, [some (zr (some (4, 150))), some (zr (some (1, 74))), some (zr (some (8, o2))), some (zi v3), some (zi v4), some (zi v5)], [], y)) (zG_astc (h' := zsI h 151 v4.toNatClampNeg x1) rfl (by decide +kernel) hb3 rfl (zG_end (L' := [some (zr (some (4, 150))), some (zr (some (1, 74))), some (zr (some (8, o2))), some (zi v3), some (zi v4), some (zi v5)]) rfl (And.intro rfl (And.intro rfl (And.intro rfl (And.intro rfl (And.intro rfl (And.intro rfl trivial)))))))) fun h2 => ?_
        refine zG_run t_Packs [(.aload_n 0, 0, 0), (.getfield 9, 4, 0), (.iload 4, 0, 0)] (63, [some (zr (some (4, 150))), some (zr (some (1, 74))), some (zr (some (8, o2))), some (zi v3), some (zi v4), some (zi v5)], [zi v4, zr (some (51, 151))], h2) (by decide +kernel) rfl ?_
        refine zG_ald (v := zi (h2.1 151 v4.toNatClampNeg)) (n := 8) rfl (by decide +kernel) rfl rfl fun hb4 => ?_
        refine zG_run t_Packs [(.iconst (-1), 0, 0)] (65, [some (zr (some (4, 150))), some (zr (some (1, 74))), some (zr (some (8, o2))), some (zi v3), some (zi v4), some (zi v5)], [zi (-1), zi (h2.1 151 v4.toNatClampNeg)], h2) (by decide +kernel) rfl ?_
        refine zG_icmp (op := .ne) (off := 9) (tgt := 74) (by decide +kernel) rfl Iff.rfl (fun c8 => ?_) (fun c8 => ?_)
        · refine zG_run t_Packs [(.iinc 4 1, 0, 0), (.iload 4, 0, 0), (.aload_n 2, 0, 0), (.getfield 15, 8, 5)] (83, [some (zr (some (4, 150))), some (zr (some (1, 74))), some (zr (some (8, o2))), some (zi v3), some (zi (v4 + 1)), some (zi v5)], [zi (h2.1 o2 5), zi (v4 + 1)], h2) (by decide +kernel) rfl ?_
          refine zG_icmp (op := .ge) (off := 11) (tgt := 94) (by decide +kernel) rfl Iff.rfl (fun c7 => ?_) (fun c7 => ?_)
          · refine zG_run t_Packs [(.iinc 5 1, 0, 0), (.goto (-77), 0, 0)] (20, [some (zr (some (4, 150))), some (zr (some (1, 74))), some (zr (some (8, o2))), some (zi v3), some (zi (v4 + 1)), some (zi (v5 + 1))], [], h2) (by decide +kernel) rfl ?_
            exact zG_end (L' := [some (zr (some (4, 150))), some (zr (some (1, 74))), some (zr (some (8, o2))), some (zi v3), some (zi (v4 + 1)), some (zi (v5 + 1))]) rfl (And.intro rfl (And.intro rfl (And.intro rfl (And.intro rfl (And.intro rfl (And.intro rfl trivial))))))
          · refine zG_run t_Packs [(.aload_n 0, 0, 0), (.getfield 9, 4, 0), (.iload 4, 0, 0), (.iconst (-1), 0, 0)] (93, [some (zr (some (4, 150))), some (zr (some (1, 74))), some (zr (some (8, o2))), some (zi v3), some (zi (v4 + 1)), some (zi v5)], [zi (-1), zi (v4 + 1), zr (some (51, 151))], h2) (by decide +kernel) rfl ?_
            refine zG_guard fun hb6 => ?_
            refine zG_bind (fun y => (94, [some (zr (some (4, 150))), some (zr (some (1, 74))), some (zr (some (8, o2))), some (zi v3), some (zi (v4 + 1)), some (zi v5)], [], y)) (zG_astc (h' := zsI h2 151 (v4 + 1).toNatClampNeg (-1)) rfl (by decide +kernel) hb6 rfl (zG_end (L' := [some (zr (some (4, 150))), some (zr (some (1, 74))), some (zr (some (8, o2))), some (zi v3), some (zi (v4 + 1)), some (zi v5)]) rfl (And.intro rfl (And.intro rfl (And.intro rfl (And.intro rfl (And.intro rfl (And.intro rfl trivial)))))))) fun h5 => ?_
            refine zG_run t_Packs [(.iinc 5 1, 0, 0), (.goto (-77), 0, 0)] (20, [some (zr (some (4, 150))), some (zr (some (1, 74))), some (zr (some (8, o2))), some (zi v3), some (zi (v4 + 1)), some (zi (v5 + 1))], [], h5) (by decide +kernel) rfl ?_
            exact zG_end (L' := [some (zr (some (4, 150))), some (zr (some (1, 74))), some (zr (some (8, o2))), some (zi v3), some (zi (v4 + 1)), some (zi (v5 + 1))]) rfl (And.intro rfl (And.intro rfl (And.intro rfl (And.intro rfl (And.intro rfl (And.intro rfl trivial))))))
        · refine zG_run t_Packs [(.iinc 4 (-1), 0, 0), (.goto 23, 0, 0), (.iinc 5 1, 0, 0), (.goto (-77), 0, 0)] (20, [some (zr (some (4, 150))), some (zr (some (1, 74))), some (zr (some (8, o2))), some (zi v3), some (zi (v4 + (-1))), some (zi (v5 + 1))], [], h2) (by decide +kernel) rfl ?_
          exact zG_end (L' := [some (zr (some (4, 150))), some (zr (some (1, 74))), some (zr (some (8, o2))), some (zi v3), some (zi (v4 + (-1))), some (zi (v5 + 1))]) rfl (And.intro rfl (And.intro rfl (And.intro rfl (And.intro rfl (And.intro rfl (And.intro rfl trivial))))))
set_option maxRecDepth 20000 in
theorem k_Packs_fitInto_j17 {l : Launch} {X : zX} (hl : l.stackTraces = false) {o2 : Nat} {h : zH} {v3 : Int32} {v4 : Int32} : zGl l m_Packs_fitInto X 0 0 (f_Packs_fitInto_j17 o2 h v3 v4) (17, [some (zr (some (4, 150))), some (zr (some (1, 74))), some (zr (some (8, o2))), some (zi v3), some (zi v4), none], [], h) (fun x => .inr ((fun a => (.inl (some (zi a.1)), a.2) : Int32 × zH → zF) x)) := by
  unfold f_Packs_fitInto_j17
  refine zG_run t_Packs [(.iconst 0, 0, 0), (.istore 5, 0, 0)] (20, [some (zr (some (4, 150))), some (zr (some (1, 74))), some (zr (some (8, o2))), some (zi v3), some (zi v4), some (zi 0)], [], h) (by decide +kernel) rfl ?_
  refine zG_forget (L' := [some (zr (some (4, 150))), some (zr (some (1, 74))), some (zr (some (8, o2))), some (zi v3), some (zi v4), some (zi 0)]) (And.intro rfl (And.intro rfl (And.intro rfl (And.intro rfl (And.intro rfl (And.intro rfl trivial)))))) ?_
  refine zG_bind (fun y : Int32 × zH => (100, [none, none, some (zr (some (8, o2))), none, some (zi y.1), none], [], y.2)) (zG_iter (fun s : Int32 × Int32 × zH => (20, [some (zr (some (4, 150))), some (zr (some (1, 74))), some (zr (some (8, o2))), some (zi v3), some (zi s.1), some (zi s.2.1)], [], s.2.2)) fun s => k_Packs_fitInto_b20 hl) (fun y13 => ?_)
  refine zG_run t_Packs [(.iload 4, 0, 0), (.aload_n 2, 0, 0), (.getfield 15, 8, 5)] (106, [none, none, some (zr (some (8, o2))), none, some (zi y13.1), none], [zi (y13.2.1 o2 5), zi y13.1], y13.2) (by decide +kernel) rfl ?_
  refine zG_icmp (op := .ne) (off := 7) (tgt := 113) (by decide +kernel) rfl Iff.rfl (fun c14 => ?_) (fun c14 => ?_)
  · refine zG_run t_Packs [(.iconst 0, 0, 0)] (114, [none, none, some (zr (some (8, o2))), none, some (zi y13.1), none], [zi 0], y13.2) (by decide +kernel) rfl ?_
    exact zG_ret (r := some (zi 0)) rfl (zrd_z rfl (by decide +kernel) rfl)
  · refine zG_run t_Packs [(.iconst 1, 0, 0), (.goto 4, 0, 0)] (114, [none, none, some (zr (some (8, o2))), none, some (zi y13.1), none], [zi 1], y13.2) (by decide +kernel) rfl ?_
    exact zG_ret (r := some (zi 1)) rfl (zrd_z rfl (by decide +kernel) rfl)
set_option maxRecDepth 20000 in
theorem k_Packs_fitInto {l : Launch} {X : zX} (hl : l.stackTraces = false) {o2 : Nat} {h : zH} {v3 : Int32} : zGl l m_Packs_fitInto X 0 0 (f_Packs_fitInto o2 h v3) (0, [some (zr (some (4, 150))), some (zr (some (1, 74))), some (zr (some (8, o2))), some (zi v3), none, none], [], h) (fun x => .inr ((fun a => (.inl (some (zi a.1)), a.2) : Int32 × zH → zF) x)) := by
  unfold f_Packs_fitInto
  refine zG_run t_Packs [(.iconst 0, 0, 0), (.istore 4, 0, 0), (.aload_n 2, 0, 0), (.getfield 15, 8, 5)] (7, [some (zr (some (4, 150))), some (zr (some (1, 74))), some (zr (some (8, o2))), some (zi v3), some (zi 0), none], [zi (h.1 o2 5)], h) (by decide +kernel) rfl ?_
  refine zG_if (op := .le) (off := 10) (tgt := 17) (by decide +kernel) rfl Iff.rfl (fun c16 => ?_) (fun c16 => ?_)
  · exact zG_forget (L' := [some (zr (some (4, 150))), some (zr (some (1, 74))), some (zr (some (8, o2))), some (zi v3), some (zi 0), none]) (And.intro rfl (And.intro rfl (And.intro rfl (And.intro rfl (And.intro rfl trivial))))) (k_Packs_fitInto_j17 hl)
  · refine zG_run t_Packs [(.aload_n 0, 0, 0), (.getfield 9, 4, 0), (.iconst 0, 0, 0), (.iconst (-1), 0, 0)] (16, [some (zr (some (4, 150))), some (zr (some (1, 74))), some (zr (some (8, o2))), some (zi v3), some (zi 0), none], [zi (-1), zi 0, zr (some (51, 151))], h) (by decide +kernel) rfl ?_
    refine zG_bind (fun y => (17, [some (zr (some (4, 150))), some (zr (some (1, 74))), some (zr (some (8, o2))), some (zi v3), some (zi 0), none], [], y)) (zG_astc (h' := zsI h 151 0 (-1)) rfl (by decide +kernel) (by decide +kernel) rfl (zG_end (L' := [some (zr (some (4, 150))), some (zr (some (1, 74))), some (zr (some (8, o2))), some (zi v3), some (zi 0), none]) rfl (And.intro rfl (And.intro rfl (And.intro rfl (And.intro rfl (And.intro rfl trivial))))))) fun h15 => ?_
    exact zG_forget (L' := [some (zr (some (4, 150))), some (zr (some (1, 74))), some (zr (some (8, o2))), some (zi v3), some (zi 0), none]) (And.intro rfl (And.intro rfl (And.intro rfl (And.intro rfl (And.intro rfl trivial))))) (k_Packs_fitInto_j17 hl)
theorem c_Packs_fitInto {l : Launch} {X : zX} (hl : l.stackTraces = false) {o2 : Nat} {h : zH} {v3 : Int32} {x : Int32 × zH} (hx : f_Packs_fitInto o2 h v3 = some x) : zCt l (true, 2) 2 m_Packs_fitInto X 0 0 [zr (some (4, 150)), zr (some (1, 74)), zr (some (8, o2)), zi v3] h ((fun a => (.inl (some (zi a.1)), a.2) : Int32 × zH → zF) x) :=
  zG_ct (R := fun a => (.inl (some (zi a.1)), a.2)) (x := x) ok_Packs_fitInto hl (Nat.le_of_ble_eq_true rfl) hx (k_Packs_fitInto hl)
def m_Packs_arrange : zM := (({ cls := "ScanPacker$Packs", name := "arrange", desc := "(LScanPacker$Catalog;LScanPacker$State;)I" } : Jvm.MethodName), prog_5_method_2_code, 4, (Option.some Jvm.ClassFile.FieldType.int), [], 4)
theorem ok_Packs_arrange : zMok m_Packs_arrange := ⟨by decide +kernel, zW_of 1275 (by decide +kernel) (by decide +kernel), zW_of 129 (by decide +kernel) (by decide +kernel), by decide, by decide +kernel, by decide +kernel⟩
set_option maxRecDepth 20000 in
theorem k_Packs_arrange_b2 {l : Launch} {X : zX} (hl : l.stackTraces = false) {o2 : Nat} {h : zH} {v3 : Int32} : zGl l m_Packs_arrange X 0 0 (f_Packs_arrange_b2 o2 h v3) (2, [some (zr (some (4, 150))), some (zr (some (1, 74))), some (zr (some (8, o2))), some (zi v3)], [], h) (Sum.elim (fun s : Int32 × zH => .inl (2, [some (zr (some (4, 150))), some (zr (some (1, 74))), some (zr (some (8, o2))), some (zi s.1)], [], s.2)) (Sum.elim (fun y : Int32 × zH => .inl (20, [none, none, none, some (zi y.1)], [], y.2)) (fun y : zH => .inl (28, [some (zr (some (4, 150))), some (zr (some (1, 74))), some (zr (some (8, o2))), none], [], y)))) := by
  unfold f_Packs_arrange_b2
  refine zG_run t_Packs [(.iload_n 3, 0, 0), (.aload_n 2, 0, 0), (.getfield 15, 8, 5)] (7, [some (zr (some (4, 150))), some (zr (some (1, 74))), some (zr (some (8, o2))), some (zi v3)], [zi (h.1 o2 5), zi v3], h) (by decide +kernel) rfl ?_
  refine zG_icmp (op := .ge) (off := 21) (tgt := 28) (by decide +kernel) rfl Iff.rfl (fun c3 => ?_) (fun c3 => ?_)
  · exact zG_end (L' := [some (zr (some (4, 150))), some (zr (some (1, 74))), some (zr (some (8, o2))), none]) rfl (And.intro rfl (And.intro rfl (And.intro rfl trivial)))
  · refine zG_run t_Packs [(.aload_n 0, 0, 0), (.aload_n 1, 0, 0), (.aload_n 2, 0, 0), (.iload_n 3, 0, 0)] (14, [some (zr (some (4, 150))), some (zr (some (1, 74))), some (zr (some (8, o2))), some (zi v3)], [zi v3, zr (some (8, o2)), zr (some (1, 74)), zr (some (4, 150))], h) (by decide +kernel) rfl ?_
    refine zG_callV (idx := 21) (R := (fun a => (some (zi a.1), a.2))) (as := [zr (some (1, 74)), zr (some (8, o2)), zi v3]) (rest := []) (n := 3) (fun a ha => c_Packs_fitInto hl ha) (by decide +kernel) ⟨ok_Packs_fitInto, by decide, by decide +kernel⟩ rfl w_286 w_287 w_288 (by decide) rfl rfl rfl (Nat.le_of_ble_eq_true rfl) fun x1 => ?_
    refine zG_if (op := .eq) (off := 5) (tgt := 22) (by decide +kernel) rfl Iff.rfl (fun c2 => ?_) (fun c2 => ?_)
    · refine zG_run t_Packs [(.iinc 3 1, 0, 0), (.goto (-23), 0, 0)] (2, [some (zr (some (4, 150))), some (zr (some (1, 74))), some (zr (some (8, o2))), some (zi (v3 + 1))], [], x1.2) (by decide +kernel) rfl ?_
      exact zG_end (L' := [some (zr (some (4, 150))), some (zr (some (1, 74))), some (zr (some (8, o2))), some (zi (v3 + 1))]) rfl (And.intro rfl (And.intro rfl (And.intro rfl (And.intro rfl trivial))))
    · exact zG_end (L' := [none, none, none, some (zi v3)]) rfl (And.intro rfl trivial)
set_option maxRecDepth 20000 in
theorem k_Packs_arrange {l : Launch} {X : zX} (hl : l.stackTraces = false) {o2 : Nat} {h : zH} : zGl l m_Packs_arrange X 0 0 (f_Packs_arrange o2 h) (0, [some (zr (some (4, 150))), some (zr (some (1, 74))), some (zr (some (8, o2))), none], [], h) (fun x => .inr ((fun a => (.inl (some (zi a.1)), a.2) : Int32 × zH → zF) x)) := by
  unfold f_Packs_arrange
  refine zG_run t_Packs [(.iconst 0, 0, 0), (.istore_n 3, 0, 0)] (2, [some (zr (some (4, 150))), some (zr (some (1, 74))), some (zr (some (8, o2))), some (zi 0)], [], h) (by decide +kernel) rfl ?_
  refine zG_forget (L' := [some (zr (some (4, 150))), some (zr (some (1, 74))), some (zr (some (8, o2))), some (zi 0)]) (And.intro rfl (And.intro rfl (And.intro rfl (And.intro rfl trivial)))) ?_
  refine zG_bind2 (fun y : Int32 × zH => (20, [none, none, none, some (zi y.1)], [], y.2)) (fun y : zH => (28, [some (zr (some (4, 150))), some (zr (some (1, 74))), some (zr (some (8, o2))), none], [], y)) (zG_iter (fun s : Int32 × zH => (2, [some (zr (some (4, 150))), some (zr (some (1, 74))), some (zr (some (8, o2))), some (zi s.1)], [], s.2)) fun s => k_Packs_arrange_b2 hl) (fun y5 => ?_) (fun y6 => ?_)
  · refine zG_run t_Packs [(.iload_n 3, 0, 0)] (21, [none, none, none, some (zi y5.1)], [zi y5.1], y5.2) (by decide +kernel) rfl ?_
    exact zG_ret (r := some (zi y5.1)) rfl (zrd_i rfl (by decide +kernel))
  · refine zG_run t_Packs [(.aload_n 0, 0, 0), (.aload_n 1, 0, 0), (.aload_n 2, 0, 0), (.aload_n 2, 0, 0), (.getfield 15, 8, 5)] (35, [some (zr (some (4, 150))), some (zr (some (1, 74))), some (zr (some (8, o2))), none], [zi (y6.1 o2 5), zr (some (8, o2)), zr (some (1, 74)), zr (some (4, 150))], y6) (by decide +kernel) rfl ?_
    refine zG_callV (idx := 21) (R := (fun a => (some (zi a.1), a.2))) (as := [zr (some (1, 74)), zr (some (8, o2)), zi (y6.1 o2 5)]) (rest := []) (n := 3) (fun a ha => c_Packs_fitInto hl ha) (by decide +kernel) ⟨ok_Packs_fitInto, by decide, by decide +kernel⟩ rfl w_286 w_287 w_288 (by decide) rfl rfl rfl (Nat.le_of_ble_eq_true rfl) fun x7 => ?_
    refine zG_run t_Packs [(.pop, 0, 0), (.aload_n 2, 0, 0), (.getfield 15, 8, 5)] (43, [some (zr (some (4, 150))), some (zr (some (1, 74))), some (zr (some (8, o2))), none], [zi (x7.2.1 o2 5)], x7.2) (by decide +kernel) rfl ?_
    exact zG_ret (r := some (zi (x7.2.1 o2 5))) rfl (zrd_i rfl (by decide +kernel))
theorem c_Packs_arrange {l : Launch} {X : zX} (hl : l.stackTraces = false) {o2 : Nat} {h : zH} {x : Int32 × zH} (hx : f_Packs_arrange o2 h = some x) : zCt l (true, 2) 2 m_Packs_arrange X 0 0 [zr (some (4, 150)), zr (some (1, 74)), zr (some (8, o2))] h ((fun a => (.inl (some (zi a.1)), a.2) : Int32 × zH → zF) x) :=
  zG_ct (R := fun a => (.inl (some (zi a.1)), a.2)) (x := x) ok_Packs_arrange hl (Nat.le_of_ble_eq_true rfl) hx (k_Packs_arrange hl)
def m_Main_pack : zM := (({ cls := "ScanPacker", name := "pack", desc := "(I)I" } : Jvm.MethodName), prog_1_method_15_code, 3, (Option.some Jvm.ClassFile.FieldType.int), [], 6)
theorem ok_Main_pack : zMok m_Main_pack := ⟨by decide +kernel, zW_of 1271 (by decide +kernel) (by decide +kernel), zW_of 122 (by decide +kernel) (by decide +kernel), by decide, by decide +kernel, by decide +kernel⟩
set_option maxRecDepth 20000 in
theorem k_Main_pack_j19 {l : Launch} {X : zX} (hl : l.stackTraces = false) {h : zH} : zGl l m_Main_pack X 1 6 (f_Main_pack_j19 h) (19, [none, none, none], [], h) (fun x => .inr ((Sum.elim (fun a => (.inl (some (zi a.1)), a.2)) (fun q => (.inr q.1, q.2)) : (Int32 × zH) ⊕ (Nat × zH) → zF) x)) := by
  unfold f_Main_pack_j19
  refine zG_mono (bc' := 0 + 1) (bs' := 0 + 6) (by decide) (by decide) ?_
  exact zG_throw (k := 1) (ik := 109) (ic := 111) rfl (Or.inl rfl) (by decide +kernel) (by decide +kernel) (by decide +kernel) (by decide +kernel) w_176 w_177 (by decide +kernel) (by decide +kernel) (Nat.le_of_ble_eq_true rfl) (by decide) rfl
set_option maxRecDepth 20000 in
theorem k_Main_pack {l : Launch} {X : zX} (hl : l.stackTraces = false) {h : zH} {v1 : Int32} : zGl l m_Main_pack X 1 6 (f_Main_pack h v1) (0, [some (zr (some (0, 0))), some (zi v1), none], [], h) (fun x => .inr ((Sum.elim (fun a => (.inl (some (zi a.1)), a.2)) (fun q => (.inr q.1, q.2)) : (Int32 × zH) ⊕ (Nat × zH) → zF) x)) := by
  unfold f_Main_pack
  refine zG_run t_Main [(.iload_n 1, 0, 0), (.iconst (-1), 0, 0)] (2, [some (zr (some (0, 0))), some (zi v1), none], [zi (-1), zi v1], h) (by decide +kernel) rfl ?_
  refine zG_icmp (op := .lt) (off := 17) (tgt := 19) (by decide +kernel) rfl Iff.rfl (fun c5 => ?_) (fun c5 => ?_)
  · refine zG_mono (bc' := 1) (bs' := 6) (by decide) (by decide) ?_
    exact zG_forget (L' := [none, none, none]) (trivial) (k_Main_pack_j19 hl)
  · refine zG_run t_Main [(.iload_n 1, 0, 0), (.aload_n 0, 0, 0), (.getfield 58, 0, 7), (.getfield 139, 7, 0), (.getfield 250, 8, 5)] (16, [some (zr (some (0, 0))), some (zi v1), none], [zi (h.1 156 5), zi v1], h) (by decide +kernel) rfl ?_
    refine zG_icmp (op := .lt) (off := 11) (tgt := 27) (by decide +kernel) rfl Iff.rfl (fun c4 => ?_) (fun c4 => ?_)
    · refine zG_run t_Main [(.aload_n 0, 0, 0), (.getfield 44, 0, 5), (.aload_n 0, 0, 0), (.getfield 30, 0, 3), (.aload_n 0, 0, 0), (.getfield 58, 0, 7), (.getfield 139, 7, 0)] (42, [some (zr (some (0, 0))), some (zi v1), none], [zr (some (8, 156)), zr (some (1, 74)), zr (some (4, 150))], h) (by decide +kernel) rfl ?_
      refine zG_callV (idx := 253) (R := (fun a => (some (zi a.1), a.2))) (as := [zr (some (1, 74)), zr (some (8, 156))]) (rest := []) (n := 2) (fun a ha => c_Packs_arrange hl ha) (by decide +kernel) ⟨ok_Packs_arrange, by decide, by decide +kernel⟩ rfl w_289 w_290 w_291 (by decide) rfl rfl rfl (Nat.le_of_ble_eq_true rfl) fun x1 => ?_
      refine zG_run t_Main [(.istore_n 2, 0, 0), (.iload_n 1, 0, 0), (.iconst (-1), 0, 0)] (48, [some (zr (some (0, 0))), some (zi v1), some (zi x1.1)], [zi (-1), zi v1], x1.2) (by decide +kernel) rfl ?_
      refine zG_icmp (op := .ne) (off := 7) (tgt := 55) (by decide +kernel) rfl Iff.rfl (fun c3 => ?_) (fun c3 => ?_)
      · refine zG_run t_Main [(.aload_n 0, 0, 0), (.getfield 44, 0, 5), (.getfield 256, 4, 0), (.iload_n 1, 0, 0)] (63, [some (zr (some (0, 0))), some (zi v1), some (zi x1.1)], [zi v1, zr (some (51, 151))], x1.2) (by decide +kernel) rfl ?_
        refine zG_ald (v := zi (x1.2.1 151 v1.toNatClampNeg)) (n := 8) rfl (by decide +kernel) rfl rfl fun hb2 => ?_
        exact zG_ret (r := some (zi (x1.2.1 151 v1.toNatClampNeg))) rfl (zrd_i rfl (by decide +kernel))
      · refine zG_run t_Main [(.iload_n 2, 0, 0), (.goto 12, 0, 0)] (64, [some (zr (some (0, 0))), some (zi v1), some (zi x1.1)], [zi x1.1], x1.2) (by decide +kernel) rfl ?_
        exact zG_ret (r := some (zi x1.1)) rfl (zrd_i rfl (by decide +kernel))
    · refine zG_mono (bc' := 1) (bs' := 6) (by decide) (by decide) ?_
      exact zG_forget (L' := [none, none, none]) (trivial) (k_Main_pack_j19 hl)
theorem c_Main_pack {l : Launch} {X : zX} (hl : l.stackTraces = false) {h : zH} {v1 : Int32} {x : (Int32 × zH) ⊕ (Nat × zH)} (hx : f_Main_pack h v1 = some x) : zCt l (true, 2) 2 m_Main_pack X 1 6 [zr (some (0, 0)), zi v1] h ((Sum.elim (fun a => (.inl (some (zi a.1)), a.2)) (fun q => (.inr q.1, q.2)) : (Int32 × zH) ⊕ (Nat × zH) → zF) x) :=
  zG_ct (R := Sum.elim (fun a => (.inl (some (zi a.1)), a.2)) (fun q => (.inr q.1, q.2))) (x := x) ok_Main_pack hl (Nat.le_of_ble_eq_true rfl) hx (k_Main_pack hl)
def m_Net_isPin : zM := (({ cls := "ScanPacker$Net", name := "isPin", desc := "(I)Z" } : Jvm.MethodName), prog_4_method_5_code, 2, (Option.some Jvm.ClassFile.FieldType.boolean), [], 1)
theorem ok_Net_isPin : zMok m_Net_isPin := ⟨by decide +kernel, zW_of 721 (by decide +kernel) (by decide +kernel), zW_of 125 (by decide +kernel) (by decide +kernel), by decide, by decide +kernel, by decide +kernel⟩
set_option maxRecDepth 20000 in
theorem k_Net_isPin {l : Launch} {X : zX} (hl : l.stackTraces = false) {o : Nat} {h : zH} {v1 : Int32} : zGl l m_Net_isPin X 0 0 (f_Net_isPin o h v1) (0, [some (zr (some (3, o))), some (zi v1)], [], h) (fun x => .inr ((fun a => (.inl (some (zi a)), h) : Int32 → zF) x)) := by
  unfold f_Net_isPin
  refine zG_run t_Net [(.iload_n 1, 0, 0)] (1, [some (zr (some (3, o))), some (zi v1)], [zi v1], h) (by decide +kernel) rfl ?_
  refine zG_if (op := .lt) (off := 25) (tgt := 26) (by decide +kernel) rfl Iff.rfl (fun c4 => ?_) (fun c4 => ?_)
  · refine zG_run t_Net [(.iconst 0, 0, 0)] (27, [some (zr (some (3, o))), some (zi v1)], [zi 0], h) (by decide +kernel) rfl ?_
    exact zG_ret (r := some (zi 0)) rfl (zrd_z rfl (by decide +kernel) rfl)
  · refine zG_run t_Net [(.iload_n 1, 0, 0), (.aload_n 0, 0, 0), (.getfield 41, 3, 0)] (9, [some (zr (some (3, o))), some (zi v1)], [zi (h.1 o 0), zi v1], h) (by decide +kernel) rfl ?_
    refine zG_icmp (op := .ge) (off := 17) (tgt := 26) (by decide +kernel) rfl Iff.rfl (fun c3 => ?_) (fun c3 => ?_)
    · refine zG_run t_Net [(.iconst 0, 0, 0)] (27, [some (zr (some (3, o))), some (zi v1)], [zi 0], h) (by decide +kernel) rfl ?_
      exact zG_ret (r := some (zi 0)) rfl (zrd_z rfl (by decide +kernel) rfl)
    · refine zG_run t_Net [(.aload_n 0, 0, 0), (.getfield 29, 3, 12), (.iload_n 1, 0, 0)] (17, [some (zr (some (3, o))), some (zi v1)], [zi v1, zr (some (27, (o + 28)))], h) (by decide +kernel) rfl ?_
      refine zG_ald (v := zi (h.1 (o + 28) v1.toNatClampNeg)) (n := 6) rfl (by decide +kernel) rfl rfl fun hb1 => ?_
      refine zG_run t_Net [(.iconst (-1), 0, 0)] (19, [some (zr (some (3, o))), some (zi v1)], [zi (-1), zi (h.1 (o + 28) v1.toNatClampNeg)], h) (by decide +kernel) rfl ?_
      refine zG_icmp (op := .ne) (off := 7) (tgt := 26) (by decide +kernel) rfl Iff.rfl (fun c2 => ?_) (fun c2 => ?_)
      · refine zG_run t_Net [(.iconst 0, 0, 0)] (27, [some (zr (some (3, o))), some (zi v1)], [zi 0], h) (by decide +kernel) rfl ?_
        exact zG_ret (r := some (zi 0)) rfl (zrd_z rfl (by decide +kernel) rfl)
      · refine zG_run t_Net [(.iconst 1, 0, 0), (.goto 4, 0, 0)] (27, [some (zr (some (3, o))), some (zi v1)], [zi 1], h) (by decide +kernel) rfl ?_
        exact zG_ret (r := some (zi 1)) rfl (zrd_z rfl (by decide +kernel) rfl)
theorem c_Net_isPin {l : Launch} {X : zX} (hl : l.stackTraces = false) {o : Nat} {h : zH} {v1 : Int32} {x : Int32} (hx : f_Net_isPin o h v1 = some x) : zCt l (true, 2) 2 m_Net_isPin X 0 0 [zr (some (3, o)), zi v1] h ((fun a => (.inl (some (zi a)), h) : Int32 → zF) x) :=
  zG_ct (R := fun a => (.inl (some (zi a)), h)) (x := x) ok_Net_isPin hl (Nat.le_of_ble_eq_true rfl) hx (k_Net_isPin hl)
def m_Main_refuseAct : zM := (({ cls := "ScanPacker", name := "refuseAct", desc := "()I" } : Jvm.MethodName), prog_1_method_42_code, 1, (Option.some Jvm.ClassFile.FieldType.int), [], 2)
theorem ok_Main_refuseAct : zMok m_Main_refuseAct := ⟨by decide +kernel, zW_of 728 (by decide +kernel) (by decide +kernel), zW_of 122 (by decide +kernel) (by decide +kernel), by decide, by decide +kernel, by decide +kernel⟩
set_option maxRecDepth 20000 in
theorem k_Main_refuseAct {l : Launch} {X : zX} (hl : l.stackTraces = false) {h : zH} : zGl l m_Main_refuseAct X 0 0 (f_Main_refuseAct h) (0, [some (zr (some (0, 0)))], [], h) (fun x => .inr ((fun a => (.inl (some (zi a.1)), a.2) : Int32 × zH → zF) x)) := by
  unfold f_Main_refuseAct
  refine zG_run t_Main [(.aload_n 0, 0, 0), (.getfield 58, 0, 7), (.iconst 1, 0, 0)] (5, [some (zr (some (0, 0)))], [zi 1, zr (some (7, 155))], h) (by decide +kernel) rfl ?_
  refine zG_callV (idx := 102) (R := (fun a => (none, a))) (as := [zi 1]) (rest := []) (n := 1) (fun a ha => c_Session_refuse hl ha) (by decide +kernel) ⟨ok_Session_refuse, by decide, by decide +kernel⟩ rfl w_173 w_174 w_175 (by decide) rfl rfl rfl (Nat.le_of_ble_eq_true rfl) fun x1 => ?_
  refine zG_run t_Main [(.iconst (-1), 0, 0)] (9, [some (zr (some (0, 0)))], [zi (-1)], x1) (by decide +kernel) rfl ?_
  exact zG_ret (r := some (zi (-1))) rfl (zrd_i rfl (by decide +kernel))
theorem c_Main_refuseAct {l : Launch} {X : zX} (hl : l.stackTraces = false) {h : zH} {x : Int32 × zH} (hx : f_Main_refuseAct h = some x) : zCt l (true, 2) 2 m_Main_refuseAct X 0 0 [zr (some (0, 0))] h ((fun a => (.inl (some (zi a.1)), a.2) : Int32 × zH → zF) x) :=
  zG_ct (R := fun a => (.inl (some (zi a.1)), a.2)) (x := x) ok_Main_refuseAct hl (Nat.le_of_ble_eq_true rfl) hx (k_Main_refuseAct hl)
def m_Main_isBit : zM := (({ cls := "ScanPacker", name := "isBit", desc := "(I)Z" } : Jvm.MethodName), prog_1_method_46_code, 1, (Option.some Jvm.ClassFile.FieldType.boolean), [], 1)
theorem ok_Main_isBit : zMok m_Main_isBit := ⟨by decide +kernel, zW_of 724 (by decide +kernel) (by decide +kernel), zW_of 122 (by decide +kernel) (by decide +kernel), by decide, by decide +kernel, by decide +kernel⟩
set_option maxRecDepth 20000 in
theorem k_Main_isBit {l : Launch} {X : zX} (hl : l.stackTraces = false) {h : zH} {v0 : Int32} : zGl l m_Main_isBit X 0 0 (f_Main_isBit v0) (0, [some (zi v0)], [], h) (fun x => .inr ((fun a => (.inl (some (zi a)), h) : Int32 → zF) x)) := by
  unfold f_Main_isBit
  refine zG_run t_Main [(.iload_n 0, 0, 0)] (1, [some (zi v0)], [zi v0], h) (by decide +kernel) rfl ?_
  refine zG_if (op := .eq) (off := 8) (tgt := 9) (by decide +kernel) rfl Iff.rfl (fun c2 => ?_) (fun c2 => ?_)
  · refine zG_run t_Main [(.iconst 1, 0, 0), (.goto 4, 0, 0)] (14, [some (zi v0)], [zi 1], h) (by decide +kernel) rfl ?_
    exact zG_ret (r := some (zi 1)) rfl (zrd_z rfl (by decide +kernel) rfl)
  · refine zG_run t_Main [(.iload_n 0, 0, 0), (.iconst 1, 0, 0)] (6, [some (zi v0)], [zi 1, zi v0], h) (by decide +kernel) rfl ?_
    refine zG_icmp (op := .ne) (off := 7) (tgt := 13) (by decide +kernel) rfl Iff.rfl (fun c1 => ?_) (fun c1 => ?_)
    · refine zG_run t_Main [(.iconst 0, 0, 0)] (14, [some (zi v0)], [zi 0], h) (by decide +kernel) rfl ?_
      exact zG_ret (r := some (zi 0)) rfl (zrd_z rfl (by decide +kernel) rfl)
    · refine zG_run t_Main [(.iconst 1, 0, 0), (.goto 4, 0, 0)] (14, [some (zi v0)], [zi 1], h) (by decide +kernel) rfl ?_
      exact zG_ret (r := some (zi 1)) rfl (zrd_z rfl (by decide +kernel) rfl)
theorem c_Main_isBit {l : Launch} {X : zX} (hl : l.stackTraces = false) {h : zH} {v0 : Int32} {x : Int32} (hx : f_Main_isBit v0 = some x) : zCt l (true, 2) 2 m_Main_isBit X 0 0 [zi v0] h ((fun a => (.inl (some (zi a)), h) : Int32 → zF) x) :=
  zG_ct (R := fun a => (.inl (some (zi a)), h)) (x := x) ok_Main_isBit hl (Nat.le_of_ble_eq_true rfl) hx (k_Main_isBit hl)
def m_State_copyFrom : zM := (({ cls := "ScanPacker$State", name := "copyFrom", desc := "(LScanPacker$State;)V" } : Jvm.MethodName), prog_9_method_3_code, 3, (Option.none : Option Jvm.ClassFile.FieldType), [], 1)
theorem ok_State_copyFrom : zMok m_State_copyFrom := ⟨by decide +kernel, zW_of 740 (by decide +kernel) (by decide +kernel), zW_of 132 (by decide +kernel) (by decide +kernel), by decide, by decide +kernel, by decide +kernel⟩
set_option maxRecDepth 20000 in
theorem k_State_copyFrom_b50 {l : Launch} {X : zX} (hl : l.stackTraces = false) {o : Nat} {o1 : Nat} {h : zH} {v2 : Int32} : zGl l m_State_copyFrom X 0 0 (f_State_copyFrom_b50 o o1 h v2) (50, [some (zr (some (8, o))), some (zr (some (8, o1))), some (zi v2)], [], h) (Sum.elim (fun s : Int32 × zH => .inl (50, [some (zr (some (8, o))), some (zr (some (8, o1))), some (zi s.1)], [], s.2)) (fun y : zH => .inl (74, [none, none, none], [], y))) := by
  unfold f_State_copyFrom_b50
  refine zG_run t_State [(.iload_n 2, 0, 0), (.bipush 8, 0, 0)] (53, [some (zr (some (8, o))), some (zr (some (8, o1))), some (zi v2)], [zi 8, zi v2], h) (by decide +kernel) rfl ?_
  refine zG_icmp (op := .ge) (off := 21) (tgt := 74) (by decide +kernel) rfl Iff.rfl (fun c10 => ?_) (fun c10 => ?_)
  · exact zG_end (L' := [none, none, none]) rfl (trivial)
  · refine zG_run t_State [(.aload_n 0, 0, 0), (.getfield 15, 8, 6), (.iload_n 2, 0, 0), (.aload_n 1, 0, 0), (.getfield 15, 8, 6), (.iload_n 2, 0, 0)] (66, [some (zr (some (8, o))), some (zr (some (8, o1))), some (zi v2)], [zi v2, zr (some (54, (o1 + 1))), zi v2, zr (some (54, (o + 1)))], h) (by decide +kernel) rfl ?_
    refine zG_ald (v := zi (h.1 (o1 + 1) v2.toNatClampNeg)) (n := 8) rfl (by decide +kernel) rfl rfl fun hb7 => ?_
    refine zG_guard fun hb9 => ?_
    refine zG_bind (fun y => (68, [some (zr (some (8, o))), some (zr (some (8, o1))), some (zi v2)], [], y)) (zG_astc (h' := zsI h (o + 1) v2.toNatClampNeg (h.1 (o1 + 1) v2.toNatClampNeg)) rfl (by decide +kernel) hb9 rfl (zG_end (L' := [some (zr (some (8, o))), some (zr (some (8, o1))), some (zi v2)]) rfl (And.intro rfl (And.intro rfl (And.intro rfl trivial))))) fun h8 => ?_
    refine zG_run t_State [(.iinc 2 1, 0, 0), (.goto (-21), 0, 0)] (50, [some (zr (some (8, o))), some (zr (some (8, o1))), some (zi (v2 + 1))], [], h8) (by decide +kernel) rfl ?_
    exact zG_end (L' := [some (zr (some (8, o))), some (zr (some (8, o1))), some (zi (v2 + 1))]) rfl (And.intro rfl (And.intro rfl (And.intro rfl trivial)))
set_option maxRecDepth 20000 in
theorem k_State_copyFrom {l : Launch} {X : zX} (hl : l.stackTraces = false) {o : Nat} {o1 : Nat} {h : zH} : zGl l m_State_copyFrom X 0 0 (f_State_copyFrom o o1 h) (0, [some (zr (some (8, o))), some (zr (some (8, o1))), none], [], h) (fun x => .inr ((fun a => (.inl none, a) : zH → zF) x)) := by
  unfold f_State_copyFrom
  refine zG_bind (fun y => (8, [some (zr (some (8, o))), some (zr (some (8, o1))), none], [], y)) (zG_run t_State [(.aload_n 0, 0, 0), (.aload_n 1, 0, 0), (.getfield 19, 8, 0), (.putfield 19, 8, 0)] (8, [some (zr (some (8, o))), some (zr (some (8, o1))), none], [], zsI h o 0 (h.1 o1 0)) (by decide +kernel) rfl (zG_end (L' := [some (zr (some (8, o))), some (zr (some (8, o1))), none]) rfl (And.intro rfl (And.intro rfl trivial)))) fun h1 => ?_
  refine zG_bind (fun y => (16, [some (zr (some (8, o))), some (zr (some (8, o1))), none], [], y)) (zG_run t_State [(.aload_n 0, 0, 0), (.aload_n 1, 0, 0), (.getfield 22, 8, 1), (.putfield 22, 8, 1)] (16, [some (zr (some (8, o))), some (zr (some (8, o1))), none], [], zsI h1 o 1 (h1.1 o1 1)) (by decide +kernel) rfl (zG_end (L' := [some (zr (some (8, o))), some (zr (some (8, o1))), none]) rfl (And.intro rfl (And.intro rfl trivial)))) fun h2 => ?_
  refine zG_bind (fun y => (24, [some (zr (some (8, o))), some (zr (some (8, o1))), none], [], y)) (zG_run t_State [(.aload_n 0, 0, 0), (.aload_n 1, 0, 0), (.getfield 9, 8, 2), (.putfield 9, 8, 2)] (24, [some (zr (some (8, o))), some (zr (some (8, o1))), none], [], zsI h2 o 2 (h2.1 o1 2)) (by decide +kernel) rfl (zG_end (L' := [some (zr (some (8, o))), some (zr (some (8, o1))), none]) rfl (And.intro rfl (And.intro rfl trivial)))) fun h3 => ?_
  refine zG_bind (fun y => (32, [some (zr (some (8, o))), some (zr (some (8, o1))), none], [], y)) (zG_run t_State [(.aload_n 0, 0, 0), (.aload_n 1, 0, 0), (.getfield 25, 8, 3), (.putfield 25, 8, 3)] (32, [some (zr (some (8, o))), some (zr (some (8, o1))), none], [], zsI h3 o 3 (h3.1 o1 3)) (by decide +kernel) rfl (zG_end (L' := [some (zr (some (8, o))), some (zr (some (8, o1))), none]) rfl (And.intro rfl (And.intro rfl trivial)))) fun h4 => ?_
  refine zG_bind (fun y => (40, [some (zr (some (8, o))), some (zr (some (8, o1))), none], [], y)) (zG_run t_State [(.aload_n 0, 0, 0), (.aload_n 1, 0, 0), (.getfield 28, 8, 4), (.putfield 28, 8, 4)] (40, [some (zr (some (8, o))), some (zr (some (8, o1))), none], [], zsL h4 o 4 (h4.2.1 o1 4)) (by decide +kernel) rfl (zG_end (L' := [some (zr (some (8, o))), some (zr (some (8, o1))), none]) rfl (And.intro rfl (And.intro rfl trivial)))) fun h5 => ?_
  refine zG_bind (fun y => (48, [some (zr (some (8, o))), some (zr (some (8, o1))), none], [], y)) (zG_run t_State [(.aload_n 0, 0, 0), (.aload_n 1, 0, 0), (.getfield 32, 8, 5), (.putfield 32, 8, 5)] (48, [some (zr (some (8, o))), some (zr (some (8, o1))), none], [], zsI h5 o 5 (h5.1 o1 5)) (by decide +kernel) rfl (zG_end (L' := [some (zr (some (8, o))), some (zr (some (8, o1))), none]) rfl (And.intro rfl (And.intro rfl trivial)))) fun h6 => ?_
  refine zG_run t_State [(.iconst 0, 0, 0), (.istore_n 2, 0, 0)] (50, [some (zr (some (8, o))), some (zr (some (8, o1))), some (zi 0)], [], h6) (by decide +kernel) rfl ?_
  refine zG_forget (L' := [some (zr (some (8, o))), some (zr (some (8, o1))), some (zi 0)]) (And.intro rfl (And.intro rfl (And.intro rfl trivial))) ?_
  refine zG_bind (fun y : zH => (74, [none, none, none], [], y)) (zG_iter (fun s : Int32 × zH => (50, [some (zr (some (8, o))), some (zr (some (8, o1))), some (zi s.1)], [], s.2)) fun s => k_State_copyFrom_b50 hl) (fun y12 => ?_)
  exact zG_ret (r := none) rfl (zrd_v rfl (by decide +kernel))
theorem c_State_copyFrom {l : Launch} {X : zX} (hl : l.stackTraces = false) {o : Nat} {o1 : Nat} {h : zH} {x : zH} (hx : f_State_copyFrom o o1 h = some x) : zCt l (true, 2) 2 m_State_copyFrom X 0 0 [zr (some (8, o)), zr (some (8, o1))] h ((fun a => (.inl none, a) : zH → zF) x) :=
  zG_ct (R := fun a => (.inl none, a)) (x := x) ok_State_copyFrom hl (Nat.le_of_ble_eq_true rfl) hx (k_State_copyFrom hl)
def m_Session_keepState : zM := (({ cls := "ScanPacker$Session", name := "keepState", desc := "()V" } : Jvm.MethodName), prog_8_method_5_code, 1, (Option.none : Option Jvm.ClassFile.FieldType), [], 2)
theorem ok_Session_keepState : zMok m_Session_keepState := ⟨by decide +kernel, zW_of 736 (by decide +kernel) (by decide +kernel), zW_of 131 (by decide +kernel) (by decide +kernel), by decide, by decide +kernel, by decide +kernel⟩
set_option maxRecDepth 20000 in
theorem k_Session_keepState {l : Launch} {X : zX} (hl : l.stackTraces = false) {o : Nat} {h : zH} : zGl l m_Session_keepState X 0 0 (f_Session_keepState o h) (0, [some (zr (some (7, o)))], [], h) (fun x => .inr ((fun a => (.inl none, a) : zH → zF) x)) := by
  unfold f_Session_keepState
  refine zG_run t_Session [(.aload_n 0, 0, 0), (.getfield 18, 7, 1), (.aload_n 0, 0, 0), (.getfield 39, 7, 2), (.aload_n 0, 0, 0), (.getfield 43, 7, 3), (.iadd, 0, 0), (.bipush 40, 0, 0)] (15, [some (zr (some (7, o)))], [zi 40, zi ((h.1 o 2) + (h.1 o 3)), zr (some (55, (o + 3)))], h) (by decide +kernel) rfl ?_
  refine zG_iremc (by decide +kernel) (by decide) ?_
  refine zG_ald (v := zr (some (8, ((o + 3) + (5 + 2 * (zrem ((h.1 o 2) + (h.1 o 3)) 40).toNatClampNeg))))) (n := 40) rfl (by decide +kernel) rfl rfl fun hb1 => ?_
  refine zG_run t_Session [(.aload_n 0, 0, 0), (.getfield 12, 7, 0)] (21, [some (zr (some (7, o)))], [zr (some (8, (o + 1))), zr (some (8, ((o + 3) + (5 + 2 * (zrem ((h.1 o 2) + (h.1 o 3)) 40).toNatClampNeg))))], h) (by decide +kernel) rfl ?_
  refine zG_callV (idx := 49) (R := (fun a => (none, a))) (as := [zr (some (8, (o + 1)))]) (rest := []) (n := 1) (fun a ha => c_State_copyFrom hl ha) (by decide +kernel) ⟨ok_State_copyFrom, by decide, by decide +kernel⟩ rfl w_300 w_301 w_302 (by decide) rfl rfl rfl (Nat.le_of_ble_eq_true rfl) fun x2 => ?_
  refine zG_run t_Session [(.aload_n 0, 0, 0), (.getfield 43, 7, 3), (.bipush 40, 0, 0)] (30, [some (zr (some (7, o)))], [zi 40, zi (x2.1 o 3)], x2) (by decide +kernel) rfl ?_
  refine zG_icmp (op := .ge) (off := 16) (tgt := 46) (by decide +kernel) rfl Iff.rfl (fun c5 => ?_) (fun c5 => ?_)
  · refine zG_run t_Session [(.aload_n 0, 0, 0), (.aload_n 0, 0, 0), (.getfield 39, 7, 2), (.iconst 1, 0, 0), (.iadd, 0, 0), (.bipush 40, 0, 0)] (55, [some (zr (some (7, o)))], [zi 40, zi ((x2.1 o 2) + 1), zr (some (7, o))], x2) (by decide +kernel) rfl ?_
    refine zG_iremc (by decide +kernel) (by decide) ?_
    refine zG_bind (fun y => (59, [some (zr (some (7, o)))], [], y)) (zG_run t_Session [(.putfield 39, 7, 2)] (59, [some (zr (some (7, o)))], [], zsI x2 o 2 (zrem ((x2.1 o 2) + 1) 40)) (by decide +kernel) rfl (zG_end (L' := [some (zr (some (7, o)))]) rfl (And.intro rfl trivial))) fun h3 => ?_
    exact zG_ret (r := none) rfl (zrd_v rfl (by decide +kernel))
  · refine zG_bind (fun y => (43, [some (zr (some (7, o)))], [], y)) (zG_run t_Session [(.aload_n 0, 0, 0), (.dup, 0, 0), (.getfield 43, 7, 3), (.iconst 1, 0, 0), (.iadd, 0, 0), (.putfield 43, 7, 3)] (43, [some (zr (some (7, o)))], [], zsI x2 o 3 ((x2.1 o 3) + 1)) (by decide +kernel) rfl (zG_end (L' := [some (zr (some (7, o)))]) rfl (And.intro rfl trivial))) fun h4 => ?_
    refine zG_run t_Session [(.goto 16, 0, 0)] (59, [some (zr (some (7, o)))], [], h4) (by decide +kernel) rfl ?_
    exact zG_ret (r := none) rfl (zrd_v rfl (by decide +kernel))
theorem c_Session_keepState {l : Launch} {X : zX} (hl : l.stackTraces = false) {o : Nat} {h : zH} {x : zH} (hx : f_Session_keepState o h = some x) : zCt l (true, 2) 2 m_Session_keepState X 0 0 [zr (some (7, o))] h ((fun a => (.inl none, a) : zH → zF) x) :=
  zG_ct (R := fun a => (.inl none, a)) (x := x) ok_Session_keepState hl (Nat.le_of_ble_eq_true rfl) hx (k_Session_keepState hl)
