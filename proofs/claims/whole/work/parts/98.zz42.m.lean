/-! methods, by wip/whole/gen.py -/
def m_Mod_firstOpen : zM := (({ cls := "ScanPackerModel", name := "firstOpen", desc := "()I" } : Jvm.MethodName), prog_13_method_57_code, 2, (Option.some Jvm.ClassFile.FieldType.int), [], 3)
theorem ok_Mod_firstOpen : zMok m_Mod_firstOpen := ⟨by decide +kernel, zW_of 1827 (by decide +kernel) (by decide +kernel), zW_of 134 (by decide +kernel) (by decide +kernel), by decide, by decide +kernel, by decide +kernel⟩
set_option maxRecDepth 20000 in
theorem k_Mod_firstOpen_b2 {l : Launch} {X : zX} (hl : l.stackTraces = false) {h : zH} {v1 : Int32} : zGl l m_Mod_firstOpen X 0 0 (f_Mod_firstOpen_b2 h v1) (2, [some (zr (some (11, 333))), some (zi v1)], [], h) (Sum.elim (fun s : Int32 => .inl (2, [some (zr (some (11, 333))), some (zi s)], [], h)) (Sum.elim (fun y : Int32 => .inl (19, [none, some (zi y)], [], h)) (fun y : Unit => .inl (27, [none, none], [], h)))) := by
  unfold f_Mod_firstOpen_b2
  refine zG_run t_Mod [(.iload_n 1, 0, 0), (.aload_n 0, 0, 0)] (4, [some (zr (some (11, 333))), some (zi v1)], [zr (some (11, 333)), zi v1], h) (by decide +kernel) rfl ?_
  refine zG_callV (idx := 332) (R := (fun a => (some (zi a), h))) (as := []) (rest := [zi v1]) (n := 0) (fun a ha => c_Mod_faults hl ha) (by decide +kernel) ⟨ok_Mod_faults, by decide, by decide +kernel⟩ rfl w_467 w_468 w_469 (by decide) rfl rfl rfl (Nat.le_of_ble_eq_true rfl) fun x1 => ?_
  refine zG_icmp (op := .ge) (off := 20) (tgt := 27) (by decide +kernel) rfl Iff.rfl (fun c4 => ?_) (fun c4 => ?_)
  · exact zG_end (L' := [none, none]) rfl (trivial)
  · refine zG_run t_Mod [(.aload_n 0, 0, 0), (.getfield 124, 11, 39), (.iload_n 1, 0, 0)] (15, [some (zr (some (11, 333))), some (zi v1)], [zi v1, zr (some (88, 362))], h) (by decide +kernel) rfl ?_
    refine zG_ald (v := zi (h.1 362 v1.toNatClampNeg)) (n := 44) rfl (by decide +kernel) rfl rfl fun hb2 => ?_
    refine zG_if (op := .eq) (off := 5) (tgt := 21) (by decide +kernel) rfl Iff.rfl (fun c3 => ?_) (fun c3 => ?_)
    · refine zG_run t_Mod [(.iinc 1 1, 0, 0), (.goto (-22), 0, 0)] (2, [some (zr (some (11, 333))), some (zi (v1 + 1))], [], h) (by decide +kernel) rfl ?_
      exact zG_end (L' := [some (zr (some (11, 333))), some (zi (v1 + 1))]) rfl (And.intro rfl (And.intro rfl trivial))
    · exact zG_end (L' := [none, some (zi v1)]) rfl (And.intro rfl trivial)
set_option maxRecDepth 20000 in
theorem k_Mod_firstOpen {l : Launch} {X : zX} (hl : l.stackTraces = false) {h : zH} : zGl l m_Mod_firstOpen X 0 0 (f_Mod_firstOpen h) (0, [some (zr (some (11, 333))), none], [], h) (fun x => .inr ((fun a => (.inl (some (zi a)), h) : Int32 → zF) x)) := by
  unfold f_Mod_firstOpen
  refine zG_run t_Mod [(.iconst 0, 0, 0), (.istore_n 1, 0, 0)] (2, [some (zr (some (11, 333))), some (zi 0)], [], h) (by decide +kernel) rfl ?_
  refine zG_forget (L' := [some (zr (some (11, 333))), some (zi 0)]) (And.intro rfl (And.intro rfl trivial)) ?_
  refine zG_bind2 (fun y : Int32 => (19, [none, some (zi y)], [], h)) (fun y : Unit => (27, [none, none], [], h)) (zG_iter (fun s : Int32 => (2, [some (zr (some (11, 333))), some (zi s)], [], h)) fun s => k_Mod_firstOpen_b2 hl) (fun y6 => ?_) (fun y7 => ?_)
  · refine zG_run t_Mod [(.iload_n 1, 0, 0)] (20, [none, some (zi y6)], [zi y6], h) (by decide +kernel) rfl ?_
    exact zG_ret (r := some (zi y6)) rfl (zrd_i rfl (by decide +kernel))
  · refine zG_run t_Mod [(.iconst (-1), 0, 0)] (28, [none, none], [zi (-1)], h) (by decide +kernel) rfl ?_
    exact zG_ret (r := some (zi (-1))) rfl (zrd_i rfl (by decide +kernel))
theorem c_Mod_firstOpen {l : Launch} {X : zX} (hl : l.stackTraces = false) {h : zH} {x : Int32} (hx : f_Mod_firstOpen h = some x) : zCt l (true, 2) 2 m_Mod_firstOpen X 0 0 [zr (some (11, 333))] h ((fun a => (.inl (some (zi a)), h) : Int32 → zF) x) :=
  zG_ct (R := fun a => (.inl (some (zi a)), h)) (x := x) ok_Mod_firstOpen hl (Nat.le_of_ble_eq_true rfl) hx (k_Mod_firstOpen hl)
def m_Mod_agrees : zM := (({ cls := "ScanPackerModel", name := "agrees", desc := "(I)Z" } : Jvm.MethodName), prog_13_method_53_code, 4, (Option.some Jvm.ClassFile.FieldType.boolean), [], 1)
theorem ok_Mod_agrees : zMok m_Mod_agrees := ⟨by decide +kernel, zW_of 1831 (by decide +kernel) (by decide +kernel), zW_of 134 (by decide +kernel) (by decide +kernel), by decide, by decide +kernel, by decide +kernel⟩
set_option maxRecDepth 20000 in
theorem k_Mod_agrees_j68 {l : Launch} {X : zX} (hl : l.stackTraces = false) {h : zH} {v1 : Int32} {v3 : Int32} {t0 : Int32} : zGl l m_Mod_agrees X 0 0 (f_Mod_agrees_j68 h v1 v3 t0) (68, [some (zr (some (11, 333))), some (zi v1), none, some (zi v3)], [zi t0], h) (Sum.elim (fun s : Int32 × Int32 => .inl (4, [some (zr (some (11, 333))), some (zi v1), some (zi s.1), some (zi s.2)], [], h)) (fun y : Int32 => .inl (75, [none, none, some (zi y), none], [], h))) := by
  unfold f_Mod_agrees_j68
  refine zG_run t_Mod [(.istore_n 2, 0, 0), (.iinc 3 1, 0, 0), (.goto (-68), 0, 0)] (4, [some (zr (some (11, 333))), some (zi v1), some (zi t0), some (zi (v3 + 1))], [], h) (by decide +kernel) rfl ?_
  exact zG_end (L' := [some (zr (some (11, 333))), some (zi v1), some (zi t0), some (zi (v3 + 1))]) rfl (And.intro rfl (And.intro rfl (And.intro rfl (And.intro rfl trivial))))
set_option maxRecDepth 20000 in
theorem k_Mod_agrees_b4 {l : Launch} {X : zX} (hl : l.stackTraces = false) {h : zH} {v1 : Int32} {v2 : Int32} {v3 : Int32} : zGl l m_Mod_agrees X 0 0 (f_Mod_agrees_b4 h v1 v2 v3) (4, [some (zr (some (11, 333))), some (zi v1), some (zi v2), some (zi v3)], [], h) (Sum.elim (fun s : Int32 × Int32 => .inl (4, [some (zr (some (11, 333))), some (zi v1), some (zi s.1), some (zi s.2)], [], h)) (fun y : Int32 => .inl (75, [none, none, some (zi y), none], [], h))) := by
  unfold f_Mod_agrees_b4
  refine zG_run t_Mod [(.iload_n 3, 0, 0), (.aload_n 0, 0, 0), (.getfield 40, 11, 3), (.iconst 0, 0, 0)] (10, [some (zr (some (11, 333))), some (zi v1), some (zi v2), some (zi v3)], [zi 0, zr (some (62, 336)), zi v3], h) (by decide +kernel) rfl ?_
  refine zG_aldc (v := zi (h.1 336 0)) rfl (by decide +kernel) (by decide +kernel) rfl ?_
  refine zG_icmp (op := .ge) (off := 64) (tgt := 75) (by decide +kernel) rfl Iff.rfl (fun c9 => ?_) (fun c9 => ?_)
  · exact zG_end (L' := [none, none, some (zi v2), none]) rfl (And.intro rfl trivial)
  · refine zG_run t_Mod [(.iload_n 2, 0, 0)] (15, [some (zr (some (11, 333))), some (zi v1), some (zi v2), some (zi v3)], [zi v2], h) (by decide +kernel) rfl ?_
    refine zG_if (op := .eq) (off := 52) (tgt := 67) (by decide +kernel) rfl Iff.rfl (fun c8 => ?_) (fun c8 => ?_)
    · refine zG_run t_Mod [(.iconst 0, 0, 0)] (68, [some (zr (some (11, 333))), some (zi v1), some (zi v2), some (zi v3)], [zi 0], h) (by decide +kernel) rfl ?_
      exact zG_forget (L' := [some (zr (some (11, 333))), some (zi v1), none, some (zi v3)]) (And.intro rfl (And.intro rfl (And.intro rfl trivial))) (k_Mod_agrees_j68 hl)
    · refine zG_run t_Mod [(.aload_n 0, 0, 0), (.getfield 112, 11, 35), (.iload_n 3, 0, 0)] (23, [some (zr (some (11, 333))), some (zi v1), some (zi v2), some (zi v3)], [zi v3, zr (some (84, 358))], h) (by decide +kernel) rfl ?_
      refine zG_ald (v := zi (h.1 358 v3.toNatClampNeg)) (n := 6) rfl (by decide +kernel) rfl rfl fun hb1 => ?_
      refine zG_run t_Mod [(.iconst 2, 0, 0)] (25, [some (zr (some (11, 333))), some (zi v1), some (zi v2), some (zi v3)], [zi 2, zi (h.1 358 v3.toNatClampNeg)], h) (by decide +kernel) rfl ?_
      refine zG_icmp (op := .eq) (off := 38) (tgt := 63) (by decide +kernel) rfl Iff.rfl (fun c7 => ?_) (fun c7 => ?_)
      · refine zG_run t_Mod [(.iconst 1, 0, 0), (.goto 4, 0, 0)] (68, [some (zr (some (11, 333))), some (zi v1), some (zi v2), some (zi v3)], [zi 1], h) (by decide +kernel) rfl ?_
        exact zG_forget (L' := [some (zr (some (11, 333))), some (zi v1), none, some (zi v3)]) (And.intro rfl (And.intro rfl (And.intro rfl trivial))) (k_Mod_agrees_j68 hl)
      · refine zG_run t_Mod [(.aload_n 0, 0, 0), (.getfield 103, 11, 32), (.bipush 6, 0, 0), (.iload_n 1, 0, 0), (.imul, 0, 0), (.iload_n 3, 0, 0), (.iadd, 0, 0)] (38, [some (zr (some (11, 333))), some (zi v1), some (zi v2), some (zi v3)], [zi ((6 * v1) + v3), zr (some (81, 355))], h) (by decide +kernel) rfl ?_
        refine zG_ald (v := zi (h.1 355 ((6 * v1) + v3).toNatClampNeg)) (n := 264) rfl (by decide +kernel) rfl rfl fun hb2 => ?_
        refine zG_run t_Mod [(.iconst 2, 0, 0)] (40, [some (zr (some (11, 333))), some (zi v1), some (zi v2), some (zi v3)], [zi 2, zi (h.1 355 ((6 * v1) + v3).toNatClampNeg)], h) (by decide +kernel) rfl ?_
        refine zG_icmp (op := .eq) (off := 23) (tgt := 63) (by decide +kernel) rfl Iff.rfl (fun c6 => ?_) (fun c6 => ?_)
        · refine zG_run t_Mod [(.iconst 1, 0, 0), (.goto 4, 0, 0)] (68, [some (zr (some (11, 333))), some (zi v1), some (zi v2), some (zi v3)], [zi 1], h) (by decide +kernel) rfl ?_
          exact zG_forget (L' := [some (zr (some (11, 333))), some (zi v1), none, some (zi v3)]) (And.intro rfl (And.intro rfl (And.intro rfl trivial))) (k_Mod_agrees_j68 hl)
        · refine zG_run t_Mod [(.aload_n 0, 0, 0), (.getfield 112, 11, 35), (.iload_n 3, 0, 0)] (48, [some (zr (some (11, 333))), some (zi v1), some (zi v2), some (zi v3)], [zi v3, zr (some (84, 358))], h) (by decide +kernel) rfl ?_
          refine zG_ald (v := zi (h.1 358 v3.toNatClampNeg)) (n := 6) rfl (by decide +kernel) rfl rfl fun hb3 => ?_
          refine zG_run t_Mod [(.aload_n 0, 0, 0), (.getfield 103, 11, 32), (.bipush 6, 0, 0), (.iload_n 1, 0, 0), (.imul, 0, 0), (.iload_n 3, 0, 0), (.iadd, 0, 0)] (59, [some (zr (some (11, 333))), some (zi v1), some (zi v2), some (zi v3)], [zi ((6 * v1) + v3), zr (some (81, 355)), zi (h.1 358 v3.toNatClampNeg)], h) (by decide +kernel) rfl ?_
          refine zG_ald (v := zi (h.1 355 ((6 * v1) + v3).toNatClampNeg)) (n := 264) rfl (by decide +kernel) rfl rfl fun hb4 => ?_
          refine zG_icmp (op := .ne) (off := 7) (tgt := 67) (by decide +kernel) rfl Iff.rfl (fun c5 => ?_) (fun c5 => ?_)
          · refine zG_run t_Mod [(.iconst 0, 0, 0)] (68, [some (zr (some (11, 333))), some (zi v1), some (zi v2), some (zi v3)], [zi 0], h) (by decide +kernel) rfl ?_
            exact zG_forget (L' := [some (zr (some (11, 333))), some (zi v1), none, some (zi v3)]) (And.intro rfl (And.intro rfl (And.intro rfl trivial))) (k_Mod_agrees_j68 hl)
          · refine zG_run t_Mod [(.iconst 1, 0, 0), (.goto 4, 0, 0)] (68, [some (zr (some (11, 333))), some (zi v1), some (zi v2), some (zi v3)], [zi 1], h) (by decide +kernel) rfl ?_
            exact zG_forget (L' := [some (zr (some (11, 333))), some (zi v1), none, some (zi v3)]) (And.intro rfl (And.intro rfl (And.intro rfl trivial))) (k_Mod_agrees_j68 hl)
set_option maxRecDepth 20000 in
theorem k_Mod_agrees {l : Launch} {X : zX} (hl : l.stackTraces = false) {h : zH} {v1 : Int32} : zGl l m_Mod_agrees X 0 0 (f_Mod_agrees h v1) (0, [some (zr (some (11, 333))), some (zi v1), none, none], [], h) (fun x => .inr ((fun a => (.inl (some (zi a)), h) : Int32 → zF) x)) := by
  unfold f_Mod_agrees
  refine zG_run t_Mod [(.iconst 1, 0, 0), (.istore_n 2, 0, 0), (.iconst 0, 0, 0), (.istore_n 3, 0, 0)] (4, [some (zr (some (11, 333))), some (zi v1), some (zi 1), some (zi 0)], [], h) (by decide +kernel) rfl ?_
  refine zG_forget (L' := [some (zr (some (11, 333))), some (zi v1), some (zi 1), some (zi 0)]) (And.intro rfl (And.intro rfl (And.intro rfl (And.intro rfl trivial)))) ?_
  refine zG_bind (fun y : Int32 => (75, [none, none, some (zi y), none], [], h)) (zG_iter (fun s : Int32 × Int32 => (4, [some (zr (some (11, 333))), some (zi v1), some (zi s.1), some (zi s.2)], [], h)) fun s => k_Mod_agrees_b4 hl) (fun y11 => ?_)
  refine zG_run t_Mod [(.iload_n 2, 0, 0)] (76, [none, none, some (zi y11), none], [zi y11], h) (by decide +kernel) rfl ?_
  refine zG_guard fun hb12 => ?_
  exact zG_ret (r := some (zi y11)) rfl (zrd_z rfl (by decide +kernel) hb12)
theorem c_Mod_agrees {l : Launch} {X : zX} (hl : l.stackTraces = false) {h : zH} {v1 : Int32} {x : Int32} (hx : f_Mod_agrees h v1 = some x) : zCt l (true, 2) 2 m_Mod_agrees X 0 0 [zr (some (11, 333)), zi v1] h ((fun a => (.inl (some (zi a)), h) : Int32 → zF) x) :=
  zG_ct (R := fun a => (.inl (some (zi a)), h)) (x := x) ok_Mod_agrees hl (Nat.le_of_ble_eq_true rfl) hx (k_Mod_agrees hl)
def m_Mod_merge : zM := (({ cls := "ScanPackerModel", name := "merge", desc := "(I)V" } : Jvm.MethodName), prog_13_method_54_code, 3, (Option.none : Option Jvm.ClassFile.FieldType), [], 1)
theorem ok_Mod_merge : zMok m_Mod_merge := ⟨by decide +kernel, zW_of 1835 (by decide +kernel) (by decide +kernel), zW_of 134 (by decide +kernel) (by decide +kernel), by decide, by decide +kernel, by decide +kernel⟩
set_option maxRecDepth 20000 in
theorem k_Mod_merge_j47 {l : Launch} {X : zX} (hl : l.stackTraces = false) {h : zH} {v1 : Int32} {v2 : Int32} {t0 : Int32} {t1 : Int32} : zGl l m_Mod_merge X 0 0 (f_Mod_merge_j47 h v1 v2 t0 t1) (47, [some (zr (some (11, 333))), some (zi v1), some (zi v2)], [zi t0, zi t1, zr (some (84, 358))], h) (Sum.elim (fun s : Int32 × zH => .inl (2, [some (zr (some (11, 333))), some (zi v1), some (zi s.1)], [], s.2)) (fun y : zH => .inl (54, [none, none, none], [], y))) := by
  unfold f_Mod_merge_j47
  refine zG_guard fun hb4 => ?_
  refine zG_bind (fun y => (48, [some (zr (some (11, 333))), some (zi v1), some (zi v2)], [], y)) (zG_astc (h' := zsI h 358 t1.toNatClampNeg t0) rfl (by decide +kernel) hb4 rfl (zG_end (L' := [some (zr (some (11, 333))), some (zi v1), some (zi v2)]) rfl (And.intro rfl (And.intro rfl (And.intro rfl trivial))))) fun h3 => ?_
  refine zG_run t_Mod [(.iinc 2 1, 0, 0), (.goto (-49), 0, 0)] (2, [some (zr (some (11, 333))), some (zi v1), some (zi (v2 + 1))], [], h3) (by decide +kernel) rfl ?_
  exact zG_end (L' := [some (zr (some (11, 333))), some (zi v1), some (zi (v2 + 1))]) rfl (And.intro rfl (And.intro rfl (And.intro rfl trivial)))
set_option maxRecDepth 20000 in
theorem k_Mod_merge_b2 {l : Launch} {X : zX} (hl : l.stackTraces = false) {h : zH} {v1 : Int32} {v2 : Int32} : zGl l m_Mod_merge X 0 0 (f_Mod_merge_b2 h v1 v2) (2, [some (zr (some (11, 333))), some (zi v1), some (zi v2)], [], h) (Sum.elim (fun s : Int32 × zH => .inl (2, [some (zr (some (11, 333))), some (zi v1), some (zi s.1)], [], s.2)) (fun y : zH => .inl (54, [none, none, none], [], y))) := by
  unfold f_Mod_merge_b2
  refine zG_run t_Mod [(.iload_n 2, 0, 0), (.aload_n 0, 0, 0), (.getfield 40, 11, 3), (.iconst 0, 0, 0)] (8, [some (zr (some (11, 333))), some (zi v1), some (zi v2)], [zi 0, zr (some (62, 336)), zi v2], h) (by decide +kernel) rfl ?_
  refine zG_aldc (v := zi (h.1 336 0)) rfl (by decide +kernel) (by decide +kernel) rfl ?_
  refine zG_icmp (op := .ge) (off := 45) (tgt := 54) (by decide +kernel) rfl Iff.rfl (fun c7 => ?_) (fun c7 => ?_)
  · exact zG_end (L' := [none, none, none]) rfl (trivial)
  · refine zG_run t_Mod [(.aload_n 0, 0, 0), (.getfield 112, 11, 35), (.iload_n 2, 0, 0), (.aload_n 0, 0, 0), (.getfield 112, 11, 35), (.iload_n 2, 0, 0)] (22, [some (zr (some (11, 333))), some (zi v1), some (zi v2)], [zi v2, zr (some (84, 358)), zi v2, zr (some (84, 358))], h) (by decide +kernel) rfl ?_
    refine zG_ald (v := zi (h.1 358 v2.toNatClampNeg)) (n := 6) rfl (by decide +kernel) rfl rfl fun hb1 => ?_
    refine zG_run t_Mod [(.iconst 2, 0, 0)] (24, [some (zr (some (11, 333))), some (zi v1), some (zi v2)], [zi 2, zi (h.1 358 v2.toNatClampNeg), zi v2, zr (some (84, 358))], h) (by decide +kernel) rfl ?_
    refine zG_icmp (op := .ne) (off := 17) (tgt := 41) (by decide +kernel) rfl Iff.rfl (fun c6 => ?_) (fun c6 => ?_)
    · refine zG_run t_Mod [(.aload_n 0, 0, 0), (.getfield 112, 11, 35), (.iload_n 2, 0, 0)] (46, [some (zr (some (11, 333))), some (zi v1), some (zi v2)], [zi v2, zr (some (84, 358)), zi v2, zr (some (84, 358))], h) (by decide +kernel) rfl ?_
      refine zG_ald (v := zi (h.1 358 v2.toNatClampNeg)) (n := 6) rfl (by decide +kernel) rfl rfl fun hb2 => ?_
      exact zG_forget (L' := [some (zr (some (11, 333))), some (zi v1), some (zi v2)]) (And.intro rfl (And.intro rfl (And.intro rfl trivial))) (k_Mod_merge_j47 hl)
    · refine zG_run t_Mod [(.aload_n 0, 0, 0), (.getfield 103, 11, 32), (.bipush 6, 0, 0), (.iload_n 1, 0, 0), (.imul, 0, 0), (.iload_n 2, 0, 0), (.iadd, 0, 0)] (37, [some (zr (some (11, 333))), some (zi v1), some (zi v2)], [zi ((6 * v1) + v2), zr (some (81, 355)), zi v2, zr (some (84, 358))], h) (by decide +kernel) rfl ?_
      refine zG_ald (v := zi (h.1 355 ((6 * v1) + v2).toNatClampNeg)) (n := 264) rfl (by decide +kernel) rfl rfl fun hb5 => ?_
      refine zG_run t_Mod [(.goto 9, 0, 0)] (47, [some (zr (some (11, 333))), some (zi v1), some (zi v2)], [zi (h.1 355 ((6 * v1) + v2).toNatClampNeg), zi v2, zr (some (84, 358))], h) (by decide +kernel) rfl ?_
      exact zG_forget (L' := [some (zr (some (11, 333))), some (zi v1), some (zi v2)]) (And.intro rfl (And.intro rfl (And.intro rfl trivial))) (k_Mod_merge_j47 hl)
set_option maxRecDepth 20000 in
theorem k_Mod_merge {l : Launch} {X : zX} (hl : l.stackTraces = false) {h : zH} {v1 : Int32} : zGl l m_Mod_merge X 0 0 (f_Mod_merge h v1) (0, [some (zr (some (11, 333))), some (zi v1), none], [], h) (fun x => .inr ((fun a => (.inl none, a) : zH → zF) x)) := by
  unfold f_Mod_merge
  refine zG_run t_Mod [(.iconst 0, 0, 0), (.istore_n 2, 0, 0)] (2, [some (zr (some (11, 333))), some (zi v1), some (zi 0)], [], h) (by decide +kernel) rfl ?_
  refine zG_forget (L' := [some (zr (some (11, 333))), some (zi v1), some (zi 0)]) (And.intro rfl (And.intro rfl (And.intro rfl trivial))) ?_
  refine zG_bind (fun y : zH => (54, [none, none, none], [], y)) (zG_iter (fun s : Int32 × zH => (2, [some (zr (some (11, 333))), some (zi v1), some (zi s.1)], [], s.2)) fun s => k_Mod_merge_b2 hl) (fun y9 => ?_)
  exact zG_ret (r := none) rfl (zrd_v rfl (by decide +kernel))
theorem c_Mod_merge {l : Launch} {X : zX} (hl : l.stackTraces = false) {h : zH} {v1 : Int32} {x : zH} (hx : f_Mod_merge h v1 = some x) : zCt l (true, 2) 2 m_Mod_merge X 0 0 [zr (some (11, 333)), zi v1] h ((fun a => (.inl none, a) : zH → zF) x) :=
  zG_ct (R := fun a => (.inl none, a)) (x := x) ok_Mod_merge hl (Nat.le_of_ble_eq_true rfl) hx (k_Mod_merge hl)
def m_Mod_cellAt : zM := (({ cls := "ScanPackerModel", name := "cellAt", desc := "(II)I" } : Jvm.MethodName), prog_13_method_55_code, 3, (Option.some Jvm.ClassFile.FieldType.int), [], 1)
theorem ok_Mod_cellAt : zMok m_Mod_cellAt := ⟨by decide +kernel, zW_of 1843 (by decide +kernel) (by decide +kernel), zW_of 134 (by decide +kernel) (by decide +kernel), by decide, by decide +kernel, by decide +kernel⟩
set_option maxRecDepth 20000 in
theorem k_Mod_cellAt {l : Launch} {X : zX} (hl : l.stackTraces = false) {h : zH} {v1 : Int32} {v2 : Int32} : zGl l m_Mod_cellAt X 0 0 (f_Mod_cellAt h v1 v2) (0, [some (zr (some (11, 333))), some (zi v1), some (zi v2)], [], h) (fun x => .inr ((fun a => (.inl (some (zi a)), h) : Int32 → zF) x)) := by
  unfold f_Mod_cellAt
  refine zG_run t_Mod [(.aload_n 0, 0, 0), (.getfield 65, 11, 11), (.bipush 6, 0, 0), (.iload_n 1, 0, 0), (.imul, 0, 0), (.iload_n 2, 0, 0), (.iadd, 0, 0)] (10, [some (zr (some (11, 333))), some (zi v1), some (zi v2)], [zi ((6 * v1) + v2), zr (some (70, 344))], h) (by decide +kernel) rfl ?_
  refine zG_ald (v := zi (h.1 344 ((6 * v1) + v2).toNatClampNeg)) (n := 36) rfl (by decide +kernel) rfl rfl fun hb1 => ?_
  exact zG_ret (r := some (zi (h.1 344 ((6 * v1) + v2).toNatClampNeg))) rfl (zrd_i rfl (by decide +kernel))
theorem c_Mod_cellAt {l : Launch} {X : zX} (hl : l.stackTraces = false) {h : zH} {v1 : Int32} {v2 : Int32} {x : Int32} (hx : f_Mod_cellAt h v1 v2 = some x) : zCt l (true, 2) 2 m_Mod_cellAt X 0 0 [zr (some (11, 333)), zi v1, zi v2] h ((fun a => (.inl (some (zi a)), h) : Int32 → zF) x) :=
  zG_ct (R := fun a => (.inl (some (zi a)), h)) (x := x) ok_Mod_cellAt hl (Nat.le_of_ble_eq_true rfl) hx (k_Mod_cellAt hl)
def m_Mod_filled : zM := (({ cls := "ScanPackerModel", name := "filled", desc := "()I" } : Jvm.MethodName), prog_13_method_56_code, 6, (Option.some Jvm.ClassFile.FieldType.int), [], 2)
theorem ok_Mod_filled : zMok m_Mod_filled := ⟨by decide +kernel, zW_of 1839 (by decide +kernel) (by decide +kernel), zW_of 134 (by decide +kernel) (by decide +kernel), by decide, by decide +kernel, by decide +kernel⟩
set_option maxRecDepth 20000 in
theorem k_Mod_filled_j73 {l : Launch} {X : zX} (hl : l.stackTraces = false) {h : zH} {v1 : Int32} {v2 : Int32} {v4 : Int32} {t0 : Int32} : zGl l m_Mod_filled X 0 0 (f_Mod_filled_j73 h v1 v2 v4 t0) (73, [some (zr (some (11, 333))), some (zi v1), some (zi v2), none, some (zi v4), none], [zi t0], h) (Sum.elim (fun s : Int32 × Int32 => .inl (36, [some (zr (some (11, 333))), some (zi v1), some (zi v2), some (zi s.1), some (zi s.2), none], [], h)) (fun y : Int32 => .inl (80, [some (zr (some (11, 333))), some (zi v1), some (zi v2), some (zi y), none, none], [], h))) := by
  unfold f_Mod_filled_j73
  refine zG_run t_Mod [(.istore_n 3, 0, 0), (.iinc 4 (-1), 0, 0), (.goto (-41), 0, 0)] (36, [some (zr (some (11, 333))), some (zi v1), some (zi v2), some (zi t0), some (zi (v4 + (-1))), none], [], h) (by decide +kernel) rfl ?_
  exact zG_end (L' := [some (zr (some (11, 333))), some (zi v1), some (zi v2), some (zi t0), some (zi (v4 + (-1))), none]) rfl (And.intro rfl (And.intro rfl (And.intro rfl (And.intro rfl (And.intro rfl trivial)))))
set_option maxRecDepth 20000 in
theorem k_Mod_filled_b36 {l : Launch} {X : zX} (hl : l.stackTraces = false) {h : zH} {v1 : Int32} {v2 : Int32} {v3 : Int32} {v4 : Int32} : zGl l m_Mod_filled X 0 0 (f_Mod_filled_b36 h v1 v2 v3 v4) (36, [some (zr (some (11, 333))), some (zi v1), some (zi v2), some (zi v3), some (zi v4), none], [], h) (Sum.elim (fun s : Int32 × Int32 => .inl (36, [some (zr (some (11, 333))), some (zi v1), some (zi v2), some (zi s.1), some (zi s.2), none], [], h)) (fun y : Int32 => .inl (80, [some (zr (some (11, 333))), some (zi v1), some (zi v2), some (zi y), none, none], [], h))) := by
  unfold f_Mod_filled_b36
  refine zG_run t_Mod [(.iload 4, 0, 0)] (38, [some (zr (some (11, 333))), some (zi v1), some (zi v2), some (zi v3), some (zi v4), none], [zi v4], h) (by decide +kernel) rfl ?_
  refine zG_if (op := .lt) (off := 42) (tgt := 80) (by decide +kernel) rfl Iff.rfl (fun c7 => ?_) (fun c7 => ?_)
  · exact zG_end (L' := [some (zr (some (11, 333))), some (zi v1), some (zi v2), some (zi v3), none, none]) rfl (And.intro rfl (And.intro rfl (And.intro rfl (And.intro rfl trivial))))
  · refine zG_run t_Mod [(.aload_n 0, 0, 0), (.getfield 112, 11, 35), (.aload_n 0, 0, 0), (.iload_n 2, 0, 0), (.iload 4, 0, 0)] (49, [some (zr (some (11, 333))), some (zi v1), some (zi v2), some (zi v3), some (zi v4), none], [zi v4, zi v2, zr (some (11, 333)), zr (some (84, 358))], h) (by decide +kernel) rfl ?_
    refine zG_callV (idx := 358) (R := (fun a => (some (zi a), h))) (as := [zi v2, zi v4]) (rest := [zr (some (84, 358))]) (n := 2) (fun a ha => c_Mod_cellAt hl ha) (by decide +kernel) ⟨ok_Mod_cellAt, by decide, by decide +kernel⟩ rfl w_517 w_518 w_519 (by decide) rfl rfl rfl (Nat.le_of_ble_eq_true rfl) fun x2 => ?_
    refine zG_ald (v := zi (h.1 358 x2.toNatClampNeg)) (n := 6) rfl (by decide +kernel) rfl rfl fun hb3 => ?_
    refine zG_run t_Mod [(.iconst 2, 0, 0)] (54, [some (zr (some (11, 333))), some (zi v1), some (zi v2), some (zi v3), some (zi v4), none], [zi 2, zi (h.1 358 x2.toNatClampNeg)], h) (by decide +kernel) rfl ?_
    refine zG_icmp (op := .ne) (off := 7) (tgt := 61) (by decide +kernel) rfl Iff.rfl (fun c6 => ?_) (fun c6 => ?_)
    · refine zG_run t_Mod [(.aload_n 0, 0, 0), (.getfield 112, 11, 35), (.aload_n 0, 0, 0), (.iload_n 2, 0, 0), (.iload 4, 0, 0)] (69, [some (zr (some (11, 333))), some (zi v1), some (zi v2), some (zi v3), some (zi v4), none], [zi v4, zi v2, zr (some (11, 333)), zr (some (84, 358))], h) (by decide +kernel) rfl ?_
      refine zG_callV (idx := 358) (R := (fun a => (some (zi a), h))) (as := [zi v2, zi v4]) (rest := [zr (some (84, 358))]) (n := 2) (fun a ha => c_Mod_cellAt hl ha) (by decide +kernel) ⟨ok_Mod_cellAt, by decide, by decide +kernel⟩ rfl w_517 w_518 w_519 (by decide) rfl rfl rfl (Nat.le_of_ble_eq_true rfl) fun x4 => ?_
      refine zG_ald (v := zi (h.1 358 x4.toNatClampNeg)) (n := 6) rfl (by decide +kernel) rfl rfl fun hb5 => ?_
      exact zG_forget (L' := [some (zr (some (11, 333))), some (zi v1), some (zi v2), none, some (zi v4), none]) (And.intro rfl (And.intro rfl (And.intro rfl (And.intro rfl trivial)))) (k_Mod_filled_j73 hl)
    · refine zG_run t_Mod [(.iload_n 3, 0, 0), (.goto 15, 0, 0)] (73, [some (zr (some (11, 333))), some (zi v1), some (zi v2), some (zi v3), some (zi v4), none], [zi v3], h) (by decide +kernel) rfl ?_
      exact zG_forget (L' := [some (zr (some (11, 333))), some (zi v1), some (zi v2), none, some (zi v4), none]) (And.intro rfl (And.intro rfl (And.intro rfl (And.intro rfl trivial)))) (k_Mod_filled_j73 hl)
set_option maxRecDepth 20000 in
theorem k_Mod_filled_j131 {l : Launch} {X : zX} (hl : l.stackTraces = false) {h : zH} {v1 : Int32} {v2 : Int32} {v4 : Int32} {v5 : Int32} {t0 : Int32} {t1 : Int32} : zGl l m_Mod_filled X 0 0 (f_Mod_filled_j131 h v1 v2 v4 v5 t0 t1) (131, [some (zr (some (11, 333))), some (zi v1), some (zi v2), none, some (zi v4), some (zi v5)], [zi t0, zi t1, zr (some (84, 358))], h) (Sum.elim (fun s : Int32 × Int32 × zH => .inl (83, [some (zr (some (11, 333))), some (zi v1), some (zi v2), some (zi s.1), some (zi s.2.1), none], [], s.2.2)) (fun y : zH => .inl (146, [some (zr (some (11, 333))), some (zi v1), some (zi v2), none, none, none], [], y))) := by
  unfold f_Mod_filled_j131
  refine zG_guard fun hb15 => ?_
  refine zG_bind (fun y => (132, [some (zr (some (11, 333))), some (zi v1), some (zi v2), none, some (zi v4), some (zi v5)], [], y)) (zG_astc (h' := zsI h 358 t1.toNatClampNeg t0) rfl (by decide +kernel) hb15 rfl (zG_end (L' := [some (zr (some (11, 333))), some (zi v1), some (zi v2), none, some (zi v4), some (zi v5)]) rfl (And.intro rfl (And.intro rfl (And.intro rfl (And.intro rfl (And.intro rfl trivial))))))) fun h14 => ?_
  refine zG_run t_Mod [(.aload_n 0, 0, 0), (.getfield 112, 11, 35), (.iload 5, 0, 0)] (138, [some (zr (some (11, 333))), some (zi v1), some (zi v2), none, some (zi v4), some (zi v5)], [zi v5, zr (some (84, 358))], h14) (by decide +kernel) rfl ?_
  refine zG_ald (v := zi (h14.1 358 v5.toNatClampNeg)) (n := 6) rfl (by decide +kernel) rfl rfl fun hb16 => ?_
  refine zG_run t_Mod [(.istore_n 3, 0, 0), (.iinc 4 1, 0, 0), (.goto (-60), 0, 0)] (83, [some (zr (some (11, 333))), some (zi v1), some (zi v2), some (zi (h14.1 358 v5.toNatClampNeg)), some (zi (v4 + 1)), some (zi v5)], [], h14) (by decide +kernel) rfl ?_
  exact zG_end (L' := [some (zr (some (11, 333))), some (zi v1), some (zi v2), some (zi (h14.1 358 v5.toNatClampNeg)), some (zi (v4 + 1)), none]) rfl (And.intro rfl (And.intro rfl (And.intro rfl (And.intro rfl (And.intro rfl trivial)))))
set_option maxRecDepth 20000 in
theorem k_Mod_filled_b83 {l : Launch} {X : zX} (hl : l.stackTraces = false) {h : zH} {v1 : Int32} {v2 : Int32} {v3 : Int32} {v4 : Int32} : zGl l m_Mod_filled X 0 0 (f_Mod_filled_b83 h v1 v2 v3 v4) (83, [some (zr (some (11, 333))), some (zi v1), some (zi v2), some (zi v3), some (zi v4), none], [], h) (Sum.elim (fun s : Int32 × Int32 × zH => .inl (83, [some (zr (some (11, 333))), some (zi v1), some (zi v2), some (zi s.1), some (zi s.2.1), none], [], s.2.2)) (fun y : zH => .inl (146, [some (zr (some (11, 333))), some (zi v1), some (zi v2), none, none, none], [], y))) := by
  unfold f_Mod_filled_b83
  refine zG_run t_Mod [(.iload 4, 0, 0), (.aload_n 0, 0, 0), (.getfield 62, 11, 10), (.iload_n 2, 0, 0)] (90, [some (zr (some (11, 333))), some (zi v1), some (zi v2), some (zi v3), some (zi v4), none], [zi v2, zr (some (69, 343)), zi v4], h) (by decide +kernel) rfl ?_
  refine zG_ald (v := zi (h.1 343 v2.toNatClampNeg)) (n := 6) rfl (by decide +kernel) rfl rfl fun hb10 => ?_
  refine zG_icmp (op := .ge) (off := 55) (tgt := 146) (by decide +kernel) rfl Iff.rfl (fun c18 => ?_) (fun c18 => ?_)
  · exact zG_end (L' := [some (zr (some (11, 333))), some (zi v1), some (zi v2), none, none, none]) rfl (And.intro rfl (And.intro rfl (And.intro rfl trivial)))
  · refine zG_run t_Mod [(.aload_n 0, 0, 0), (.iload_n 2, 0, 0), (.iload 4, 0, 0)] (98, [some (zr (some (11, 333))), some (zi v1), some (zi v2), some (zi v3), some (zi v4), none], [zi v4, zi v2, zr (some (11, 333))], h) (by decide +kernel) rfl ?_
    refine zG_callV (idx := 358) (R := (fun a => (some (zi a), h))) (as := [zi v2, zi v4]) (rest := []) (n := 2) (fun a ha => c_Mod_cellAt hl ha) (by decide +kernel) ⟨ok_Mod_cellAt, by decide, by decide +kernel⟩ rfl w_517 w_518 w_519 (by decide) rfl rfl rfl (Nat.le_of_ble_eq_true rfl) fun x11 => ?_
    refine zG_run t_Mod [(.istore 5, 0, 0), (.aload_n 0, 0, 0), (.getfield 112, 11, 35), (.iload 5, 0, 0), (.aload_n 0, 0, 0), (.getfield 112, 11, 35), (.iload 5, 0, 0)] (115, [some (zr (some (11, 333))), some (zi v1), some (zi v2), some (zi v3), some (zi v4), some (zi x11)], [zi x11, zr (some (84, 358)), zi x11, zr (some (84, 358))], h) (by decide +kernel) rfl ?_
    refine zG_ald (v := zi (h.1 358 x11.toNatClampNeg)) (n := 6) rfl (by decide +kernel) rfl rfl fun hb12 => ?_
    refine zG_run t_Mod [(.iconst 2, 0, 0)] (117, [some (zr (some (11, 333))), some (zi v1), some (zi v2), some (zi v3), some (zi v4), some (zi x11)], [zi 2, zi (h.1 358 x11.toNatClampNeg), zi x11, zr (some (84, 358))], h) (by decide +kernel) rfl ?_
    refine zG_icmp (op := .ne) (off := 7) (tgt := 124) (by decide +kernel) rfl Iff.rfl (fun c17 => ?_) (fun c17 => ?_)
    · refine zG_run t_Mod [(.aload_n 0, 0, 0), (.getfield 112, 11, 35), (.iload 5, 0, 0)] (130, [some (zr (some (11, 333))), some (zi v1), some (zi v2), some (zi v3), some (zi v4), some (zi x11)], [zi x11, zr (some (84, 358)), zi x11, zr (some (84, 358))], h) (by decide +kernel) rfl ?_
      refine zG_ald (v := zi (h.1 358 x11.toNatClampNeg)) (n := 6) rfl (by decide +kernel) rfl rfl fun hb13 => ?_
      exact zG_forget (L' := [some (zr (some (11, 333))), some (zi v1), some (zi v2), none, some (zi v4), some (zi x11)]) (And.intro rfl (And.intro rfl (And.intro rfl (And.intro rfl (And.intro rfl trivial))))) (k_Mod_filled_j131 hl)
    · refine zG_run t_Mod [(.iload_n 3, 0, 0), (.goto 10, 0, 0)] (131, [some (zr (some (11, 333))), some (zi v1), some (zi v2), some (zi v3), some (zi v4), some (zi x11)], [zi v3, zi x11, zr (some (84, 358))], h) (by decide +kernel) rfl ?_
      exact zG_forget (L' := [some (zr (some (11, 333))), some (zi v1), some (zi v2), none, some (zi v4), some (zi x11)]) (And.intro rfl (And.intro rfl (And.intro rfl (And.intro rfl (And.intro rfl trivial))))) (k_Mod_filled_j131 hl)
set_option maxRecDepth 20000 in
theorem k_Mod_filled_b9 {l : Launch} {X : zX} (hl : l.stackTraces = false) {h : zH} {v1 : Int32} {v2 : Int32} : zGl l m_Mod_filled X 0 0 (f_Mod_filled_b9 h v1 v2) (9, [some (zr (some (11, 333))), some (zi v1), some (zi v2), none, none, none], [], h) (Sum.elim (fun s : Int32 × zH => .inl (9, [some (zr (some (11, 333))), some (zi v1), some (zi s.1), none, none, none], [], s.2)) (fun y : zH => .inl (152, [some (zr (some (11, 333))), some (zi v1), none, none, none, none], [], y))) := by
  unfold f_Mod_filled_b9
  refine zG_run t_Mod [(.iload_n 2, 0, 0), (.aload_n 0, 0, 0), (.getfield 40, 11, 3), (.iconst 2, 0, 0)] (15, [some (zr (some (11, 333))), some (zi v1), some (zi v2), none, none, none], [zi 2, zr (some (62, 336)), zi v2], h) (by decide +kernel) rfl ?_
  refine zG_aldc (v := zi (h.1 336 2)) rfl (by decide +kernel) (by decide +kernel) rfl ?_
  refine zG_icmp (op := .ge) (off := 136) (tgt := 152) (by decide +kernel) rfl Iff.rfl (fun c22 => ?_) (fun c22 => ?_)
  · exact zG_end (L' := [some (zr (some (11, 333))), some (zi v1), none, none, none, none]) rfl (And.intro rfl (And.intro rfl trivial))
  · refine zG_run t_Mod [(.iload_n 1, 0, 0), (.iconst 2, 0, 0)] (21, [some (zr (some (11, 333))), some (zi v1), some (zi v2), none, none, none], [zi 2, zi v1], h) (by decide +kernel) rfl ?_
    refine zG_icmp (op := .ne) (off := 131) (tgt := 152) (by decide +kernel) rfl Iff.rfl (fun c21 => ?_) (fun c21 => ?_)
    · exact zG_end (L' := [some (zr (some (11, 333))), some (zi v1), none, none, none, none]) rfl (And.intro rfl (And.intro rfl trivial))
    · refine zG_run t_Mod [(.iconst 0, 0, 0), (.istore_n 3, 0, 0), (.aload_n 0, 0, 0), (.getfield 62, 11, 10), (.iload_n 2, 0, 0)] (31, [some (zr (some (11, 333))), some (zi v1), some (zi v2), some (zi 0), none, none], [zi v2, zr (some (69, 343))], h) (by decide +kernel) rfl ?_
      refine zG_ald (v := zi (h.1 343 v2.toNatClampNeg)) (n := 6) rfl (by decide +kernel) rfl rfl fun hb1 => ?_
      refine zG_run t_Mod [(.iconst 1, 0, 0), (.isub, 0, 0), (.istore 4, 0, 0)] (36, [some (zr (some (11, 333))), some (zi v1), some (zi v2), some (zi 0), some (zi ((h.1 343 v2.toNatClampNeg) - 1)), none], [], h) (by decide +kernel) rfl ?_
      refine zG_forget (L' := [some (zr (some (11, 333))), some (zi v1), some (zi v2), some (zi 0), some (zi ((h.1 343 v2.toNatClampNeg) - 1)), none]) (And.intro rfl (And.intro rfl (And.intro rfl (And.intro rfl (And.intro rfl trivial))))) ?_
      refine zG_bind (fun y : Int32 => (80, [some (zr (some (11, 333))), some (zi v1), some (zi v2), some (zi y), none, none], [], h)) (zG_iter (fun s : Int32 × Int32 => (36, [some (zr (some (11, 333))), some (zi v1), some (zi v2), some (zi s.1), some (zi s.2), none], [], h)) fun s => k_Mod_filled_b36 hl) (fun y9 => ?_)
      refine zG_run t_Mod [(.iconst 0, 0, 0), (.istore 4, 0, 0)] (83, [some (zr (some (11, 333))), some (zi v1), some (zi v2), some (zi y9), some (zi 0), none], [], h) (by decide +kernel) rfl ?_
      refine zG_forget (L' := [some (zr (some (11, 333))), some (zi v1), some (zi v2), some (zi y9), some (zi 0), none]) (And.intro rfl (And.intro rfl (And.intro rfl (And.intro rfl (And.intro rfl trivial))))) ?_
      refine zG_bind (fun y : zH => (146, [some (zr (some (11, 333))), some (zi v1), some (zi v2), none, none, none], [], y)) (zG_iter (fun s : Int32 × Int32 × zH => (83, [some (zr (some (11, 333))), some (zi v1), some (zi v2), some (zi s.1), some (zi s.2.1), none], [], s.2.2)) fun s => k_Mod_filled_b83 hl) (fun y20 => ?_)
      refine zG_run t_Mod [(.iinc 2 1, 0, 0), (.goto (-140), 0, 0)] (9, [some (zr (some (11, 333))), some (zi v1), some (zi (v2 + 1)), none, none, none], [], y20) (by decide +kernel) rfl ?_
      exact zG_end (L' := [some (zr (some (11, 333))), some (zi v1), some (zi (v2 + 1)), none, none, none]) rfl (And.intro rfl (And.intro rfl (And.intro rfl trivial)))
set_option maxRecDepth 20000 in
theorem k_Mod_filled_j189 {l : Launch} {X : zX} (hl : l.stackTraces = false) {h : zH} {v1 : Int32} {v3 : Int32} {t0 : Int32} {t1 : Int32} : zGl l m_Mod_filled X 0 0 (f_Mod_filled_j189 h v1 v3 t0 t1) (189, [some (zr (some (11, 333))), some (zi v1), none, some (zi v3), none, none], [zi t0, zi t1], h) (Sum.elim (fun s : Int32 × Int32 => .inl (156, [some (zr (some (11, 333))), some (zi v1), some (zi s.1), some (zi s.2), none, none], [], h)) (fun y : Int32 => .inl (199, [none, none, some (zi y), none, none, none], [], h))) := by
  unfold f_Mod_filled_j189
  refine zG_run t_Mod [(.iload_n 3, 0, 0), (.ishl, 0, 0), (.ior, 0, 0), (.istore_n 2, 0, 0), (.iinc 3 1, 0, 0), (.goto (-40), 0, 0)] (156, [some (zr (some (11, 333))), some (zi v1), some (zi (t1 ||| (zshl t0 v3))), some (zi (v3 + 1)), none, none], [], h) (by decide +kernel) rfl ?_
  exact zG_end (L' := [some (zr (some (11, 333))), some (zi v1), some (zi (t1 ||| (zshl t0 v3))), some (zi (v3 + 1)), none, none]) rfl (And.intro rfl (And.intro rfl (And.intro rfl (And.intro rfl trivial))))
set_option maxRecDepth 20000 in
theorem k_Mod_filled_b156 {l : Launch} {X : zX} (hl : l.stackTraces = false) {h : zH} {v1 : Int32} {v2 : Int32} {v3 : Int32} : zGl l m_Mod_filled X 0 0 (f_Mod_filled_b156 h v1 v2 v3) (156, [some (zr (some (11, 333))), some (zi v1), some (zi v2), some (zi v3), none, none], [], h) (Sum.elim (fun s : Int32 × Int32 => .inl (156, [some (zr (some (11, 333))), some (zi v1), some (zi s.1), some (zi s.2), none, none], [], h)) (fun y : Int32 => .inl (199, [none, none, some (zi y), none, none, none], [], h))) := by
  unfold f_Mod_filled_b156
  refine zG_run t_Mod [(.iload_n 3, 0, 0), (.aload_n 0, 0, 0), (.getfield 40, 11, 3), (.iconst 0, 0, 0)] (162, [some (zr (some (11, 333))), some (zi v1), some (zi v2), some (zi v3), none, none], [zi 0, zr (some (62, 336)), zi v3], h) (by decide +kernel) rfl ?_
  refine zG_aldc (v := zi (h.1 336 0)) rfl (by decide +kernel) (by decide +kernel) rfl ?_
  refine zG_icmp (op := .ge) (off := 36) (tgt := 199) (by decide +kernel) rfl Iff.rfl (fun c28 => ?_) (fun c28 => ?_)
  · exact zG_end (L' := [none, none, some (zi v2), none, none, none]) rfl (And.intro rfl trivial)
  · refine zG_run t_Mod [(.iload_n 2, 0, 0), (.aload_n 0, 0, 0), (.getfield 112, 11, 35), (.iload_n 3, 0, 0)] (172, [some (zr (some (11, 333))), some (zi v1), some (zi v2), some (zi v3), none, none], [zi v3, zr (some (84, 358)), zi v2], h) (by decide +kernel) rfl ?_
    refine zG_ald (v := zi (h.1 358 v3.toNatClampNeg)) (n := 6) rfl (by decide +kernel) rfl rfl fun hb25 => ?_
    refine zG_run t_Mod [(.iconst 2, 0, 0)] (174, [some (zr (some (11, 333))), some (zi v1), some (zi v2), some (zi v3), none, none], [zi 2, zi (h.1 358 v3.toNatClampNeg), zi v2], h) (by decide +kernel) rfl ?_
    refine zG_icmp (op := .ne) (off := 9) (tgt := 183) (by decide +kernel) rfl Iff.rfl (fun c27 => ?_) (fun c27 => ?_)
    · refine zG_run t_Mod [(.aload_n 0, 0, 0), (.getfield 112, 11, 35), (.iload_n 3, 0, 0)] (188, [some (zr (some (11, 333))), some (zi v1), some (zi v2), some (zi v3), none, none], [zi v3, zr (some (84, 358)), zi v2], h) (by decide +kernel) rfl ?_
      refine zG_ald (v := zi (h.1 358 v3.toNatClampNeg)) (n := 6) rfl (by decide +kernel) rfl rfl fun hb26 => ?_
      exact zG_forget (L' := [some (zr (some (11, 333))), some (zi v1), none, some (zi v3), none, none]) (And.intro rfl (And.intro rfl (And.intro rfl trivial))) (k_Mod_filled_j189 hl)
    · refine zG_run t_Mod [(.iload_n 1, 0, 0), (.iconst 2, 0, 0)] (179, [some (zr (some (11, 333))), some (zi v1), some (zi v2), some (zi v3), none, none], [zi 2, zi v1, zi v2], h) (by decide +kernel) rfl ?_
      refine zG_iremc (by decide +kernel) (by decide) ?_
      refine zG_run t_Mod [(.goto 9, 0, 0)] (189, [some (zr (some (11, 333))), some (zi v1), some (zi v2), some (zi v3), none, none], [zi (zrem v1 2), zi v2], h) (by decide +kernel) rfl ?_
      exact zG_forget (L' := [some (zr (some (11, 333))), some (zi v1), none, some (zi v3), none, none]) (And.intro rfl (And.intro rfl (And.intro rfl trivial))) (k_Mod_filled_j189 hl)
set_option maxRecDepth 20000 in
theorem k_Mod_filled {l : Launch} {X : zX} (hl : l.stackTraces = false) {h : zH} : zGl l m_Mod_filled X 0 0 (f_Mod_filled h) (0, [some (zr (some (11, 333))), none, none, none, none, none], [], h) (fun x => .inr ((fun a => (.inl (some (zi a.1)), a.2) : Int32 × zH → zF) x)) := by
  unfold f_Mod_filled
  refine zG_run t_Mod [(.aload_n 0, 0, 0), (.getfield 74, 11, 14), (.iconst 3, 0, 0)] (5, [some (zr (some (11, 333))), none, none, none, none, none], [zi 3, zr (some (73, 347))], h) (by decide +kernel) rfl ?_
  refine zG_aldc (v := zi (h.1 347 3)) rfl (by decide +kernel) (by decide +kernel) rfl ?_
  refine zG_run t_Mod [(.istore_n 1, 0, 0), (.iconst 0, 0, 0), (.istore_n 2, 0, 0)] (9, [some (zr (some (11, 333))), some (zi (h.1 347 3)), some (zi 0), none, none, none], [], h) (by decide +kernel) rfl ?_
  refine zG_forget (L' := [some (zr (some (11, 333))), some (zi (h.1 347 3)), some (zi 0), none, none, none]) (And.intro rfl (And.intro rfl (And.intro rfl trivial))) ?_
  refine zG_bind (fun y : zH => (152, [some (zr (some (11, 333))), some (zi (h.1 347 3)), none, none, none, none], [], y)) (zG_iter (fun s : Int32 × zH => (9, [some (zr (some (11, 333))), some (zi (h.1 347 3)), some (zi s.1), none, none, none], [], s.2)) fun s => k_Mod_filled_b9 hl) (fun y24 => ?_)
  refine zG_run t_Mod [(.iconst 0, 0, 0), (.istore_n 2, 0, 0), (.iconst 0, 0, 0), (.istore_n 3, 0, 0)] (156, [some (zr (some (11, 333))), some (zi (h.1 347 3)), some (zi 0), some (zi 0), none, none], [], y24) (by decide +kernel) rfl ?_
  refine zG_forget (L' := [some (zr (some (11, 333))), some (zi (h.1 347 3)), some (zi 0), some (zi 0), none, none]) (And.intro rfl (And.intro rfl (And.intro rfl (And.intro rfl trivial)))) ?_
  refine zG_bind (fun y : Int32 => (199, [none, none, some (zi y), none, none, none], [], y24)) (zG_iter (fun s : Int32 × Int32 => (156, [some (zr (some (11, 333))), some (zi (h.1 347 3)), some (zi s.1), some (zi s.2), none, none], [], y24)) fun s => k_Mod_filled_b156 hl) (fun y30 => ?_)
  refine zG_run t_Mod [(.iload_n 2, 0, 0)] (200, [none, none, some (zi y30), none, none, none], [zi y30], y24) (by decide +kernel) rfl ?_
  exact zG_ret (r := some (zi y30)) rfl (zrd_i rfl (by decide +kernel))
theorem c_Mod_filled {l : Launch} {X : zX} (hl : l.stackTraces = false) {h : zH} {x : Int32 × zH} (hx : f_Mod_filled h = some x) : zCt l (true, 2) 2 m_Mod_filled X 0 0 [zr (some (11, 333))] h ((fun a => (.inl (some (zi a.1)), a.2) : Int32 × zH → zF) x) :=
  zG_ct (R := fun a => (.inl (some (zi a.1)), a.2)) (x := x) ok_Mod_filled hl (Nat.le_of_ble_eq_true rfl) hx (k_Mod_filled hl)
def m_Mod_tellProgram : zM := (({ cls := "ScanPackerModel", name := "tellProgram", desc := "()V" } : Jvm.MethodName), prog_13_method_58_code, 6, (Option.none : Option Jvm.ClassFile.FieldType), [], 4)
theorem ok_Mod_tellProgram : zMok m_Mod_tellProgram := ⟨by decide +kernel, zW_of 1823 (by decide +kernel) (by decide +kernel), zW_of 134 (by decide +kernel) (by decide +kernel), by decide, by decide +kernel, by decide +kernel⟩
set_option maxRecDepth 20000 in
theorem k_Mod_tellProgram_j46 {l : Launch} {X : zX} (hl : l.stackTraces = false) {h : zH} {v1 : Int32} {t0 : Int32} {t1 : Int32} : zGl l m_Mod_tellProgram X 0 0 (f_Mod_tellProgram_j46 h v1 t0 t1) (46, [some (zr (some (11, 333))), some (zi v1), none, none, none, none], [zi t0, zi t1, zr (some (88, 362))], h) (Sum.elim (fun s : Int32 × zH => .inl (7, [some (zr (some (11, 333))), some (zi s.1), none, none, none, none], [], s.2)) (fun y : zH => .inl (53, [some (zr (some (11, 333))), none, none, none, none, none], [], y))) := by
  unfold f_Mod_tellProgram_j46
  refine zG_guard fun hb5 => ?_
  refine zG_bind (fun y => (47, [some (zr (some (11, 333))), some (zi v1), none, none, none, none], [], y)) (zG_astc (h' := zsI h 362 t1.toNatClampNeg (t0 &&& 1)) rfl (by decide +kernel) hb5 rfl (zG_end (L' := [some (zr (some (11, 333))), some (zi v1), none, none, none, none]) rfl (And.intro rfl (And.intro rfl trivial)))) fun h4 => ?_
  refine zG_run t_Mod [(.iinc 1 1, 0, 0), (.goto (-43), 0, 0)] (7, [some (zr (some (11, 333))), some (zi (v1 + 1)), none, none, none, none], [], h4) (by decide +kernel) rfl ?_
  exact zG_end (L' := [some (zr (some (11, 333))), some (zi (v1 + 1)), none, none, none, none]) rfl (And.intro rfl (And.intro rfl trivial))
set_option maxRecDepth 20000 in
theorem k_Mod_tellProgram_b7 {l : Launch} {X : zX} (hl : l.stackTraces = false) {h : zH} {v1 : Int32} : zGl l m_Mod_tellProgram X 0 0 (f_Mod_tellProgram_b7 h v1) (7, [some (zr (some (11, 333))), some (zi v1), none, none, none, none], [], h) (Sum.elim (fun s : Int32 × zH => .inl (7, [some (zr (some (11, 333))), some (zi s.1), none, none, none, none], [], s.2)) (fun y : zH => .inl (53, [some (zr (some (11, 333))), none, none, none, none, none], [], y))) := by
  unfold f_Mod_tellProgram_b7
  refine zG_run t_Mod [(.iload_n 1, 0, 0), (.aload_n 0, 0, 0)] (9, [some (zr (some (11, 333))), some (zi v1), none, none, none, none], [zr (some (11, 333)), zi v1], h) (by decide +kernel) rfl ?_
  refine zG_callV (idx := 332) (R := (fun a => (some (zi a), h))) (as := []) (rest := [zi v1]) (n := 0) (fun a ha => c_Mod_faults hl ha) (by decide +kernel) ⟨ok_Mod_faults, by decide, by decide +kernel⟩ rfl w_467 w_468 w_469 (by decide) rfl rfl rfl (Nat.le_of_ble_eq_true rfl) fun x2 => ?_
  refine zG_icmp (op := .ge) (off := 41) (tgt := 53) (by decide +kernel) rfl Iff.rfl (fun c9 => ?_) (fun c9 => ?_)
  · exact zG_end (L' := [some (zr (some (11, 333))), none, none, none, none, none]) rfl (And.intro rfl trivial)
  · refine zG_run t_Mod [(.aload_n 0, 0, 0), (.getfield 124, 11, 39), (.iload_n 1, 0, 0), (.aload_n 0, 0, 0), (.getfield 109, 11, 34), (.iload_n 1, 0, 0)] (25, [some (zr (some (11, 333))), some (zi v1), none, none, none, none], [zi v1, zr (some (83, 357)), zi v1, zr (some (88, 362))], h) (by decide +kernel) rfl ?_
    refine zG_ald (v := zi (h.1 357 v1.toNatClampNeg)) (n := 44) rfl (by decide +kernel) rfl rfl fun hb3 => ?_
    refine zG_if (op := .ne) (off := 19) (tgt := 45) (by decide +kernel) rfl Iff.rfl (fun c8 => ?_) (fun c8 => ?_)
    · refine zG_run t_Mod [(.iconst 0, 0, 0)] (46, [some (zr (some (11, 333))), some (zi v1), none, none, none, none], [zi 0, zi v1, zr (some (88, 362))], h) (by decide +kernel) rfl ?_
      exact zG_forget (L' := [some (zr (some (11, 333))), some (zi v1), none, none, none, none]) (And.intro rfl (And.intro rfl trivial)) (k_Mod_tellProgram_j46 hl)
    · refine zG_run t_Mod [(.aload_n 0, 0, 0), (.getfield 74, 11, 14), (.bipush 13, 0, 0), (.iload_n 1, 0, 0), (.iadd, 0, 0)] (37, [some (zr (some (11, 333))), some (zi v1), none, none, none, none], [zi (13 + v1), zr (some (73, 347)), zi v1, zr (some (88, 362))], h) (by decide +kernel) rfl ?_
      refine zG_ald (v := zi (h.1 347 (13 + v1).toNatClampNeg)) (n := 57) rfl (by decide +kernel) rfl rfl fun hb6 => ?_
      refine zG_if (op := .ne) (off := 7) (tgt := 45) (by decide +kernel) rfl Iff.rfl (fun c7 => ?_) (fun c7 => ?_)
      · refine zG_run t_Mod [(.iconst 0, 0, 0)] (46, [some (zr (some (11, 333))), some (zi v1), none, none, none, none], [zi 0, zi v1, zr (some (88, 362))], h) (by decide +kernel) rfl ?_
        exact zG_forget (L' := [some (zr (some (11, 333))), some (zi v1), none, none, none, none]) (And.intro rfl (And.intro rfl trivial)) (k_Mod_tellProgram_j46 hl)
      · refine zG_run t_Mod [(.iconst 1, 0, 0), (.goto 4, 0, 0)] (46, [some (zr (some (11, 333))), some (zi v1), none, none, none, none], [zi 1, zi v1, zr (some (88, 362))], h) (by decide +kernel) rfl ?_
        exact zG_forget (L' := [some (zr (some (11, 333))), some (zi v1), none, none, none, none]) (And.intro rfl (And.intro rfl trivial)) (k_Mod_tellProgram_j46 hl)
set_option maxRecDepth 20000 in
theorem k_Mod_tellProgram_b65 {l : Launch} {X : zX} (hl : l.stackTraces = false) {h : zH} {v1 : Int32} {v2 : Int32} : zGl l m_Mod_tellProgram X 0 0 (f_Mod_tellProgram_b65 h v1 v2) (65, [some (zr (some (11, 333))), some (zi v1), some (zi v2), none, none, none], [], h) (Sum.elim (fun s : Int32 × zH => .inl (65, [some (zr (some (11, 333))), some (zi v1), some (zi s.1), none, none, none], [], s.2)) (fun y : zH => .inl (88, [some (zr (some (11, 333))), some (zi v1), none, none, none, none], [], y))) := by
  unfold f_Mod_tellProgram_b65
  refine zG_run t_Mod [(.iload_n 2, 0, 0), (.aload_n 0, 0, 0), (.getfield 40, 11, 3), (.iconst 0, 0, 0)] (71, [some (zr (some (11, 333))), some (zi v1), some (zi v2), none, none, none], [zi 0, zr (some (62, 336)), zi v2], h) (by decide +kernel) rfl ?_
  refine zG_aldc (v := zi (h.1 336 0)) rfl (by decide +kernel) (by decide +kernel) rfl ?_
  refine zG_icmp (op := .ge) (off := 16) (tgt := 88) (by decide +kernel) rfl Iff.rfl (fun c15 => ?_) (fun c15 => ?_)
  · exact zG_end (L' := [some (zr (some (11, 333))), some (zi v1), none, none, none, none]) rfl (And.intro rfl (And.intro rfl trivial))
  · refine zG_run t_Mod [(.aload_n 0, 0, 0), (.getfield 112, 11, 35), (.iload_n 2, 0, 0), (.iconst 2, 0, 0)] (81, [some (zr (some (11, 333))), some (zi v1), some (zi v2), none, none, none], [zi 2, zi v2, zr (some (84, 358))], h) (by decide +kernel) rfl ?_
    refine zG_guard fun hb14 => ?_
    refine zG_bind (fun y => (82, [some (zr (some (11, 333))), some (zi v1), some (zi v2), none, none, none], [], y)) (zG_astc (h' := zsI h 358 v2.toNatClampNeg 2) rfl (by decide +kernel) hb14 rfl (zG_end (L' := [some (zr (some (11, 333))), some (zi v1), some (zi v2), none, none, none]) rfl (And.intro rfl (And.intro rfl (And.intro rfl trivial))))) fun h13 => ?_
    refine zG_run t_Mod [(.iinc 2 1, 0, 0), (.goto (-20), 0, 0)] (65, [some (zr (some (11, 333))), some (zi v1), some (zi (v2 + 1)), none, none, none], [], h13) (by decide +kernel) rfl ?_
    exact zG_end (L' := [some (zr (some (11, 333))), some (zi v1), some (zi (v2 + 1)), none, none, none]) rfl (And.intro rfl (And.intro rfl (And.intro rfl trivial)))
set_option maxRecDepth 20000 in
theorem k_Mod_tellProgram_b92 {l : Launch} {X : zX} (hl : l.stackTraces = false) {h : zH} {v2 : Int32} {v3 : Int32} : zGl l m_Mod_tellProgram X 0 0 (f_Mod_tellProgram_b92 h v2 v3) (92, [some (zr (some (11, 333))), none, some (zi v2), some (zi v3), none, none], [], h) (Sum.elim (fun s : Int32 × Int32 × zH => .inl (92, [some (zr (some (11, 333))), none, some (zi s.1), some (zi s.2.1), none, none], [], s.2.2)) (fun y : Int32 × zH => .inl (134, [some (zr (some (11, 333))), none, some (zi y.1), none, none, none], [], y.2))) := by
  unfold f_Mod_tellProgram_b92
  refine zG_run t_Mod [(.iload_n 3, 0, 0), (.aload_n 0, 0, 0)] (94, [some (zr (some (11, 333))), none, some (zi v2), some (zi v3), none, none], [zr (some (11, 333)), zi v3], h) (by decide +kernel) rfl ?_
  refine zG_callV (idx := 332) (R := (fun a => (some (zi a), h))) (as := []) (rest := [zi v3]) (n := 0) (fun a ha => c_Mod_faults hl ha) (by decide +kernel) ⟨ok_Mod_faults, by decide, by decide +kernel⟩ rfl w_467 w_468 w_469 (by decide) rfl rfl rfl (Nat.le_of_ble_eq_true rfl) fun x18 => ?_
  refine zG_icmp (op := .ge) (off := 37) (tgt := 134) (by decide +kernel) rfl Iff.rfl (fun c24 => ?_) (fun c24 => ?_)
  · exact zG_end (L' := [some (zr (some (11, 333))), none, some (zi v2), none, none, none]) rfl (And.intro rfl (And.intro rfl trivial))
  · refine zG_run t_Mod [(.aload_n 0, 0, 0), (.getfield 124, 11, 39), (.iload_n 3, 0, 0)] (105, [some (zr (some (11, 333))), none, some (zi v2), some (zi v3), none, none], [zi v3, zr (some (88, 362))], h) (by decide +kernel) rfl ?_
    refine zG_ald (v := zi (h.1 362 v3.toNatClampNeg)) (n := 44) rfl (by decide +kernel) rfl rfl fun hb19 => ?_
    refine zG_if (op := .eq) (off := 22) (tgt := 128) (by decide +kernel) rfl Iff.rfl (fun c23 => ?_) (fun c23 => ?_)
    · refine zG_run t_Mod [(.iinc 3 1, 0, 0), (.goto (-39), 0, 0)] (92, [some (zr (some (11, 333))), none, some (zi v2), some (zi (v3 + 1)), none, none], [], h) (by decide +kernel) rfl ?_
      exact zG_end (L' := [some (zr (some (11, 333))), none, some (zi v2), some (zi (v3 + 1)), none, none]) rfl (And.intro rfl (And.intro rfl (And.intro rfl trivial)))
    · refine zG_run t_Mod [(.aload_n 0, 0, 0), (.iload_n 3, 0, 0)] (111, [some (zr (some (11, 333))), none, some (zi v2), some (zi v3), none, none], [zi v3, zr (some (11, 333))], h) (by decide +kernel) rfl ?_
      refine zG_callV (idx := 367) (R := (fun a => (some (zi a), h))) (as := [zi v3]) (rest := []) (n := 1) (fun a ha => c_Mod_agrees hl ha) (by decide +kernel) ⟨ok_Mod_agrees, by decide, by decide +kernel⟩ rfl w_511 w_512 w_513 (by decide) rfl rfl rfl (Nat.le_of_ble_eq_true rfl) fun x20 => ?_
      refine zG_if (op := .ne) (off := 6) (tgt := 120) (by decide +kernel) rfl Iff.rfl (fun c22 => ?_) (fun c22 => ?_)
      · refine zG_run t_Mod [(.aload_n 0, 0, 0), (.iload_n 3, 0, 0)] (122, [some (zr (some (11, 333))), none, some (zi v2), some (zi v3), none, none], [zi v3, zr (some (11, 333))], h) (by decide +kernel) rfl ?_
        refine zG_callV (idx := 370) (R := (fun a => (none, a))) (as := [zi v3]) (rest := []) (n := 1) (fun a ha => c_Mod_merge hl ha) (by decide +kernel) ⟨ok_Mod_merge, by decide, by decide +kernel⟩ rfl w_514 w_515 w_516 (by decide) rfl rfl rfl (Nat.le_of_ble_eq_true rfl) fun x21 => ?_
        refine zG_run t_Mod [(.iinc 2 1, 0, 0), (.iinc 3 1, 0, 0), (.goto (-39), 0, 0)] (92, [some (zr (some (11, 333))), none, some (zi (v2 + 1)), some (zi (v3 + 1)), none, none], [], x21) (by decide +kernel) rfl ?_
        exact zG_end (L' := [some (zr (some (11, 333))), none, some (zi (v2 + 1)), some (zi (v3 + 1)), none, none]) rfl (And.intro rfl (And.intro rfl (And.intro rfl trivial)))
      · refine zG_run t_Mod [(.goto 11, 0, 0), (.iinc 3 1, 0, 0), (.goto (-39), 0, 0)] (92, [some (zr (some (11, 333))), none, some (zi v2), some (zi (v3 + 1)), none, none], [], h) (by decide +kernel) rfl ?_
        exact zG_end (L' := [some (zr (some (11, 333))), none, some (zi v2), some (zi (v3 + 1)), none, none]) rfl (And.intro rfl (And.intro rfl (And.intro rfl trivial)))
set_option maxRecDepth 20000 in
theorem k_Mod_tellProgram_b145 {l : Launch} {X : zX} (hl : l.stackTraces = false) {h : zH} {v2 : Int32} {v3 : Int32} {v4 : Int32} {v5 : Int32} : zGl l m_Mod_tellProgram X 0 0 (f_Mod_tellProgram_b145 h v2 v3 v4 v5) (145, [some (zr (some (11, 333))), none, some (zi v2), some (zi v3), some (zi v4), some (zi v5)], [], h) (Sum.elim (fun s : Int32 × Int32 × zH => .inl (145, [some (zr (some (11, 333))), none, some (zi v2), some (zi v3), some (zi s.1), some (zi s.2.1)], [], s.2.2)) (fun y : Int32 × zH => .inl (199, [some (zr (some (11, 333))), none, some (zi v2), some (zi v3), some (zi y.1), none], [], y.2))) := by
  unfold f_Mod_tellProgram_b145
  refine zG_run t_Mod [(.iload 5, 0, 0), (.aload_n 0, 0, 0)] (148, [some (zr (some (11, 333))), none, some (zi v2), some (zi v3), some (zi v4), some (zi v5)], [zr (some (11, 333)), zi v5], h) (by decide +kernel) rfl ?_
  refine zG_callV (idx := 332) (R := (fun a => (some (zi a), h))) (as := []) (rest := [zi v5]) (n := 0) (fun a ha => c_Mod_faults hl ha) (by decide +kernel) ⟨ok_Mod_faults, by decide, by decide +kernel⟩ rfl w_467 w_468 w_469 (by decide) rfl rfl rfl (Nat.le_of_ble_eq_true rfl) fun x28 => ?_
  refine zG_icmp (op := .ge) (off := 48) (tgt := 199) (by decide +kernel) rfl Iff.rfl (fun c35 => ?_) (fun c35 => ?_)
  · exact zG_end (L' := [some (zr (some (11, 333))), none, some (zi v2), some (zi v3), some (zi v4), none]) rfl (And.intro rfl (And.intro rfl (And.intro rfl (And.intro rfl trivial))))
  · refine zG_run t_Mod [(.aload_n 0, 0, 0), (.getfield 124, 11, 39), (.iload 5, 0, 0)] (160, [some (zr (some (11, 333))), none, some (zi v2), some (zi v3), some (zi v4), some (zi v5)], [zi v5, zr (some (88, 362))], h) (by decide +kernel) rfl ?_
    refine zG_ald (v := zi (h.1 362 v5.toNatClampNeg)) (n := 44) rfl (by decide +kernel) rfl rfl fun hb29 => ?_
    refine zG_if (op := .eq) (off := 32) (tgt := 193) (by decide +kernel) rfl Iff.rfl (fun c34 => ?_) (fun c34 => ?_)
    · refine zG_run t_Mod [(.iinc 5 1, 0, 0), (.goto (-51), 0, 0)] (145, [some (zr (some (11, 333))), none, some (zi v2), some (zi v3), some (zi v4), some (zi (v5 + 1))], [], h) (by decide +kernel) rfl ?_
      exact zG_end (L' := [some (zr (some (11, 333))), none, some (zi v2), some (zi v3), some (zi v4), some (zi (v5 + 1))]) rfl (And.intro rfl (And.intro rfl (And.intro rfl (And.intro rfl (And.intro rfl trivial)))))
    · refine zG_run t_Mod [(.aload_n 0, 0, 0), (.getfield 96, 11, 30), (.bipush 64, 0, 0), (.iload 5, 0, 0), (.imul, 0, 0), (.iload_n 3, 0, 0), (.iadd, 0, 0)] (175, [some (zr (some (11, 333))), none, some (zi v2), some (zi v3), some (zi v4), some (zi v5)], [zi ((64 * v5) + v3), zr (some (79, 353))], h) (by decide +kernel) rfl ?_
      refine zG_ald (v := zi (h.1 353 ((64 * v5) + v3).toNatClampNeg)) (n := 2816) rfl (by decide +kernel) rfl rfl fun hb30 => ?_
      refine zG_if (op := .ne) (off := 6) (tgt := 182) (by decide +kernel) rfl Iff.rfl (fun c33 => ?_) (fun c33 => ?_)
      · refine zG_run t_Mod [(.aload_n 0, 0, 0), (.getfield 124, 11, 39), (.iload 5, 0, 0), (.iconst 0, 0, 0)] (189, [some (zr (some (11, 333))), none, some (zi v2), some (zi v3), some (zi v4), some (zi v5)], [zi 0, zi v5, zr (some (88, 362))], h) (by decide +kernel) rfl ?_
        refine zG_guard fun hb32 => ?_
        refine zG_bind (fun y => (190, [some (zr (some (11, 333))), none, some (zi v2), some (zi v3), some (zi v4), some (zi v5)], [], y)) (zG_astc (h' := zsI h 362 v5.toNatClampNeg (0 &&& 1)) rfl (by decide +kernel) hb32 rfl (zG_end (L' := [some (zr (some (11, 333))), none, some (zi v2), some (zi v3), some (zi v4), some (zi v5)]) rfl (And.intro rfl (And.intro rfl (And.intro rfl (And.intro rfl (And.intro rfl trivial))))))) fun h31 => ?_
        refine zG_run t_Mod [(.iinc 4 1, 0, 0), (.iinc 5 1, 0, 0), (.goto (-51), 0, 0)] (145, [some (zr (some (11, 333))), none, some (zi v2), some (zi v3), some (zi (v4 + 1)), some (zi (v5 + 1))], [], h31) (by decide +kernel) rfl ?_
        exact zG_end (L' := [some (zr (some (11, 333))), none, some (zi v2), some (zi v3), some (zi (v4 + 1)), some (zi (v5 + 1))]) rfl (And.intro rfl (And.intro rfl (And.intro rfl (And.intro rfl (And.intro rfl trivial)))))
      · refine zG_run t_Mod [(.goto 14, 0, 0), (.iinc 5 1, 0, 0), (.goto (-51), 0, 0)] (145, [some (zr (some (11, 333))), none, some (zi v2), some (zi v3), some (zi v4), some (zi (v5 + 1))], [], h) (by decide +kernel) rfl ?_
        exact zG_end (L' := [some (zr (some (11, 333))), none, some (zi v2), some (zi v3), some (zi v4), some (zi (v5 + 1))]) rfl (And.intro rfl (And.intro rfl (And.intro rfl (And.intro rfl (And.intro rfl trivial)))))
set_option maxRecDepth 20000 in
theorem k_Mod_tellProgram_b58 {l : Launch} {X : zX} (hl : l.stackTraces = false) {h : zH} {v1 : Int32} : zGl l m_Mod_tellProgram X 0 0 (f_Mod_tellProgram_b58 h v1) (58, [some (zr (some (11, 333))), some (zi v1), none, none, none, none], [], h) (Sum.elim (fun s : Int32 × zH => .inl (58, [some (zr (some (11, 333))), some (zi s.1), none, none, none, none], [], s.2)) (fun y : zH => .inl (248, [none, none, none, none, none, none], [], y))) := by
  unfold f_Mod_tellProgram_b58
  refine zG_run t_Mod [(.iload_n 1, 0, 0), (.iconst (-1), 0, 0)] (60, [some (zr (some (11, 333))), some (zi v1), none, none, none, none], [zi (-1), zi v1], h) (by decide +kernel) rfl ?_
  refine zG_icmp (op := .eq) (off := 188) (tgt := 248) (by decide +kernel) rfl Iff.rfl (fun c46 => ?_) (fun c46 => ?_)
  · exact zG_end (L' := [none, none, none, none, none, none]) rfl (trivial)
  · refine zG_run t_Mod [(.iconst 0, 0, 0), (.istore_n 2, 0, 0)] (65, [some (zr (some (11, 333))), some (zi v1), some (zi 0), none, none, none], [], h) (by decide +kernel) rfl ?_
    refine zG_forget (L' := [some (zr (some (11, 333))), some (zi v1), some (zi 0), none, none, none]) (And.intro rfl (And.intro rfl (And.intro rfl trivial))) ?_
    refine zG_bind (fun y : zH => (88, [some (zr (some (11, 333))), some (zi v1), none, none, none, none], [], y)) (zG_iter (fun s : Int32 × zH => (65, [some (zr (some (11, 333))), some (zi v1), some (zi s.1), none, none, none], [], s.2)) fun s => k_Mod_tellProgram_b65 hl) (fun y17 => ?_)
    refine zG_run t_Mod [(.iconst 0, 0, 0), (.istore_n 2, 0, 0), (.iload_n 1, 0, 0), (.istore_n 3, 0, 0)] (92, [some (zr (some (11, 333))), some (zi v1), some (zi 0), some (zi v1), none, none], [], y17) (by decide +kernel) rfl ?_
    refine zG_forget (L' := [some (zr (some (11, 333))), none, some (zi 0), some (zi v1), none, none]) (And.intro rfl (And.intro rfl (And.intro rfl trivial))) ?_
    refine zG_bind (fun y : Int32 × zH => (134, [some (zr (some (11, 333))), none, some (zi y.1), none, none, none], [], y.2)) (zG_iter (fun s : Int32 × Int32 × zH => (92, [some (zr (some (11, 333))), none, some (zi s.1), some (zi s.2.1), none, none], [], s.2.2)) fun s => k_Mod_tellProgram_b92 hl) (fun y26 => ?_)
    refine zG_run t_Mod [(.aload_n 0, 0, 0)] (135, [some (zr (some (11, 333))), none, some (zi y26.1), none, none, none], [zr (some (11, 333))], y26.2) (by decide +kernel) rfl ?_
    refine zG_callV (idx := 373) (R := (fun a => (some (zi a.1), a.2))) (as := []) (rest := []) (n := 0) (fun a ha => c_Mod_filled hl ha) (by decide +kernel) ⟨ok_Mod_filled, by decide, by decide +kernel⟩ rfl w_520 w_521 w_522 (by decide) rfl rfl rfl (Nat.le_of_ble_eq_true rfl) fun x27 => ?_
    refine zG_run t_Mod [(.istore_n 3, 0, 0), (.iconst 0, 0, 0), (.istore 4, 0, 0), (.iconst 0, 0, 0), (.istore 5, 0, 0)] (145, [some (zr (some (11, 333))), none, some (zi y26.1), some (zi x27.1), some (zi 0), some (zi 0)], [], x27.2) (by decide +kernel) rfl ?_
    refine zG_forget (L' := [some (zr (some (11, 333))), none, some (zi y26.1), some (zi x27.1), some (zi 0), some (zi 0)]) (And.intro rfl (And.intro rfl (And.intro rfl (And.intro rfl (And.intro rfl trivial))))) ?_
    refine zG_bind (fun y : Int32 × zH => (199, [some (zr (some (11, 333))), none, some (zi y26.1), some (zi x27.1), some (zi y.1), none], [], y.2)) (zG_iter (fun s : Int32 × Int32 × zH => (145, [some (zr (some (11, 333))), none, some (zi y26.1), some (zi x27.1), some (zi s.1), some (zi s.2.1)], [], s.2.2)) fun s => k_Mod_tellProgram_b145 hl) (fun y37 => ?_)
    refine zG_run t_Mod [(.aload_n 0, 0, 0), (.getfield 115, 11, 36), (.aload_n 0, 0, 0), (.getfield 361, 11, 40), (.iload_n 3, 0, 0)] (208, [some (zr (some (11, 333))), none, some (zi y26.1), some (zi x27.1), some (zi y37.1), none], [zi x27.1, zi (y37.2.1 333 40), zr (some (85, 359))], y37.2) (by decide +kernel) rfl ?_
    refine zG_guard fun hb39 => ?_
    refine zG_bind (fun y => (209, [some (zr (some (11, 333))), none, some (zi y26.1), some (zi x27.1), some (zi y37.1), none], [], y)) (zG_astc (h' := zsI y37.2 359 (y37.2.1 333 40).toNatClampNeg x27.1) rfl (by decide +kernel) hb39 rfl (zG_end (L' := [some (zr (some (11, 333))), none, some (zi y26.1), some (zi x27.1), some (zi y37.1), none]) rfl (And.intro rfl (And.intro rfl (And.intro rfl (And.intro rfl trivial)))))) fun h38 => ?_
    refine zG_run t_Mod [(.aload_n 0, 0, 0), (.getfield 118, 11, 37), (.aload_n 0, 0, 0), (.getfield 361, 11, 40), (.iload 4, 0, 0)] (219, [some (zr (some (11, 333))), none, some (zi y26.1), some (zi x27.1), some (zi y37.1), none], [zi y37.1, zi (h38.1 333 40), zr (some (86, 360))], h38) (by decide +kernel) rfl ?_
    refine zG_guard fun hb41 => ?_
    refine zG_bind (fun y => (220, [some (zr (some (11, 333))), none, some (zi y26.1), some (zi x27.1), some (zi y37.1), none], [], y)) (zG_astc (h' := zsI h38 360 (h38.1 333 40).toNatClampNeg y37.1) rfl (by decide +kernel) hb41 rfl (zG_end (L' := [some (zr (some (11, 333))), none, some (zi y26.1), some (zi x27.1), some (zi y37.1), none]) rfl (And.intro rfl (And.intro rfl (And.intro rfl (And.intro rfl trivial)))))) fun h40 => ?_
    refine zG_run t_Mod [(.aload_n 0, 0, 0), (.getfield 121, 11, 38), (.aload_n 0, 0, 0), (.getfield 361, 11, 40), (.iload_n 2, 0, 0)] (229, [some (zr (some (11, 333))), none, some (zi y26.1), some (zi x27.1), some (zi y37.1), none], [zi y26.1, zi (h40.1 333 40), zr (some (87, 361))], h40) (by decide +kernel) rfl ?_
    refine zG_guard fun hb43 => ?_
    refine zG_bind (fun y => (230, [some (zr (some (11, 333))), none, some (zi y26.1), some (zi x27.1), some (zi y37.1), none], [], y)) (zG_astc (h' := zsI h40 361 (h40.1 333 40).toNatClampNeg y26.1) rfl (by decide +kernel) hb43 rfl (zG_end (L' := [some (zr (some (11, 333))), none, some (zi y26.1), some (zi x27.1), some (zi y37.1), none]) rfl (And.intro rfl (And.intro rfl (And.intro rfl (And.intro rfl trivial)))))) fun h42 => ?_
    refine zG_bind (fun y => (240, [some (zr (some (11, 333))), none, some (zi y26.1), some (zi x27.1), some (zi y37.1), none], [], y)) (zG_run t_Mod [(.aload_n 0, 0, 0), (.dup, 0, 0), (.getfield 361, 11, 40), (.iconst 1, 0, 0), (.iadd, 0, 0), (.putfield 361, 11, 40)] (240, [some (zr (some (11, 333))), none, some (zi y26.1), some (zi x27.1), some (zi y37.1), none], [], zsI h42 333 40 ((h42.1 333 40) + 1)) (by decide +kernel) rfl (zG_end (L' := [some (zr (some (11, 333))), none, some (zi y26.1), some (zi x27.1), some (zi y37.1), none]) rfl (And.intro rfl (And.intro rfl (And.intro rfl (And.intro rfl trivial)))))) fun h44 => ?_
    refine zG_run t_Mod [(.aload_n 0, 0, 0)] (241, [some (zr (some (11, 333))), none, some (zi y26.1), some (zi x27.1), some (zi y37.1), none], [zr (some (11, 333))], h44) (by decide +kernel) rfl ?_
    refine zG_callV (idx := 364) (R := (fun a => (some (zi a), h44))) (as := []) (rest := []) (n := 0) (fun a ha => c_Mod_firstOpen hl ha) (by decide +kernel) ⟨ok_Mod_firstOpen, by decide, by decide +kernel⟩ rfl w_508 w_509 w_510 (by decide) rfl rfl rfl (Nat.le_of_ble_eq_true rfl) fun x45 => ?_
    refine zG_run t_Mod [(.istore_n 1, 0, 0), (.goto (-187), 0, 0)] (58, [some (zr (some (11, 333))), some (zi x45), some (zi y26.1), some (zi x27.1), some (zi y37.1), none], [], h44) (by decide +kernel) rfl ?_
    exact zG_end (L' := [some (zr (some (11, 333))), some (zi x45), none, none, none, none]) rfl (And.intro rfl (And.intro rfl trivial))
set_option maxRecDepth 20000 in
theorem k_Mod_tellProgram {l : Launch} {X : zX} (hl : l.stackTraces = false) {h : zH} : zGl l m_Mod_tellProgram X 0 0 (f_Mod_tellProgram h) (0, [some (zr (some (11, 333))), none, none, none, none, none], [], h) (fun x => .inr ((fun a => (.inl none, a) : zH → zF) x)) := by
  unfold f_Mod_tellProgram
  refine zG_bind (fun y => (5, [some (zr (some (11, 333))), none, none, none, none, none], [], y)) (zG_run t_Mod [(.aload_n 0, 0, 0), (.iconst 0, 0, 0), (.putfield 361, 11, 40)] (5, [some (zr (some (11, 333))), none, none, none, none, none], [], zsI h 333 40 0) (by decide +kernel) rfl (zG_end (L' := [some (zr (some (11, 333))), none, none, none, none, none]) rfl (And.intro rfl trivial))) fun h1 => ?_
  refine zG_run t_Mod [(.iconst 0, 0, 0), (.istore_n 1, 0, 0)] (7, [some (zr (some (11, 333))), some (zi 0), none, none, none, none], [], h1) (by decide +kernel) rfl ?_
  refine zG_forget (L' := [some (zr (some (11, 333))), some (zi 0), none, none, none, none]) (And.intro rfl (And.intro rfl trivial)) ?_
  refine zG_bind (fun y : zH => (53, [some (zr (some (11, 333))), none, none, none, none, none], [], y)) (zG_iter (fun s : Int32 × zH => (7, [some (zr (some (11, 333))), some (zi s.1), none, none, none, none], [], s.2)) fun s => k_Mod_tellProgram_b7 hl) (fun y11 => ?_)
  refine zG_run t_Mod [(.aload_n 0, 0, 0)] (54, [some (zr (some (11, 333))), none, none, none, none, none], [zr (some (11, 333))], y11) (by decide +kernel) rfl ?_
  refine zG_callV (idx := 364) (R := (fun a => (some (zi a), y11))) (as := []) (rest := []) (n := 0) (fun a ha => c_Mod_firstOpen hl ha) (by decide +kernel) ⟨ok_Mod_firstOpen, by decide, by decide +kernel⟩ rfl w_508 w_509 w_510 (by decide) rfl rfl rfl (Nat.le_of_ble_eq_true rfl) fun x12 => ?_
  refine zG_run t_Mod [(.istore_n 1, 0, 0)] (58, [some (zr (some (11, 333))), some (zi x12), none, none, none, none], [], y11) (by decide +kernel) rfl ?_
  refine zG_forget (L' := [some (zr (some (11, 333))), some (zi x12), none, none, none, none]) (And.intro rfl (And.intro rfl trivial)) ?_
  refine zG_bind (fun y : zH => (248, [none, none, none, none, none, none], [], y)) (zG_iter (fun s : Int32 × zH => (58, [some (zr (some (11, 333))), some (zi s.1), none, none, none, none], [], s.2)) fun s => k_Mod_tellProgram_b58 hl) (fun y48 => ?_)
  exact zG_ret (r := none) rfl (zrd_v rfl (by decide +kernel))
theorem c_Mod_tellProgram {l : Launch} {X : zX} (hl : l.stackTraces = false) {h : zH} {x : zH} (hx : f_Mod_tellProgram h = some x) : zCt l (true, 2) 2 m_Mod_tellProgram X 0 0 [zr (some (11, 333))] h ((fun a => (.inl none, a) : zH → zF) x) :=
  zG_ct (R := fun a => (.inl none, a)) (x := x) ok_Mod_tellProgram hl (Nat.le_of_ble_eq_true rfl) hx (k_Mod_tellProgram hl)
def m_Mod_count : zM := (({ cls := "ScanPackerModel", name := "count", desc := "(I)I" } : Jvm.MethodName), prog_13_method_60_code, 2, (Option.some Jvm.ClassFile.FieldType.int), [], 5)
theorem ok_Mod_count : zMok m_Mod_count := ⟨by decide +kernel, zW_of 1795 (by decide +kernel) (by decide +kernel), zW_of 134 (by decide +kernel) (by decide +kernel), by decide, by decide +kernel, by decide +kernel⟩
set_option maxRecDepth 20000 in
theorem k_Mod_count_j100 {l : Launch} {X : zX} (hl : l.stackTraces = false) {h : zH} {v1 : Int32} : zGl l m_Mod_count X 0 0 (f_Mod_count_j100 h v1) (100, [some (zr (some (11, 333))), some (zi v1)], [], h) (fun x => .inr ((fun a => (.inl (some (zi a.1)), a.2) : Int32 × zH → zF) x)) := by
  unfold f_Mod_count_j100
  refine zG_run t_Mod [(.aload_n 0, 0, 0), (.getfield 40, 11, 3), (.iload_n 1, 0, 0)] (105, [some (zr (some (11, 333))), some (zi v1)], [zi v1, zr (some (62, 336))], h) (by decide +kernel) rfl ?_
  refine zG_ald (v := zi (h.1 336 v1.toNatClampNeg)) (n := 10) rfl (by decide +kernel) rfl rfl fun hb2 => ?_
  exact zG_ret (r := some (zi (h.1 336 v1.toNatClampNeg))) rfl (zrd_i rfl (by decide +kernel))
set_option maxRecDepth 20000 in
theorem k_Mod_count_j198 {l : Launch} {X : zX} (hl : l.stackTraces = false) {h : zH} {v1 : Int32} : zGl l m_Mod_count X 0 0 (f_Mod_count_j198 h v1) (198, [some (zr (some (11, 333))), some (zi v1)], [], h) (fun x => .inr ((fun a => (.inl (some (zi a.1)), a.2) : Int32 × zH → zF) x)) := by
  unfold f_Mod_count_j198
  refine zG_run t_Mod [(.aload_n 0, 0, 0), (.getfield 77, 11, 15), (.iload_n 1, 0, 0), (.bipush 17, 0, 0), (.isub, 0, 0)] (206, [some (zr (some (11, 333))), some (zi v1)], [zi (v1 - 17), zr (some (74, 348))], h) (by decide +kernel) rfl ?_
  refine zG_ald (v := zi (h.1 348 (v1 - 17).toNatClampNeg)) (n := 3) rfl (by decide +kernel) rfl rfl fun hb26 => ?_
  exact zG_ret (r := some (zi (h.1 348 (v1 - 17).toNatClampNeg))) rfl (zrd_i rfl (by decide +kernel))
set_option maxRecDepth 20000 in
theorem k_Mod_count {l : Launch} {X : zX} (hl : l.stackTraces = false) {h : zH} {v1 : Int32} : zGl l m_Mod_count X 0 0 (f_Mod_count h v1) (0, [some (zr (some (11, 333))), some (zi v1)], [], h) (fun x => .inr ((fun a => (.inl (some (zi a.1)), a.2) : Int32 × zH → zF) x)) := by
  unfold f_Mod_count
  refine zG_bind (fun y => (5, [some (zr (some (11, 333))), some (zi v1)], [], y)) (zG_run t_Mod [(.aload_n 0, 0, 0), (.iconst 0, 0, 0), (.putfield 181, 11, 2)] (5, [some (zr (some (11, 333))), some (zi v1)], [], zsI h 333 2 0) (by decide +kernel) rfl (zG_end (L' := [some (zr (some (11, 333))), some (zi v1)]) rfl (And.intro rfl (And.intro rfl trivial)))) fun h1 => ?_
  refine zG_run t_Mod [(.iload_n 1, 0, 0)] (6, [some (zr (some (11, 333))), some (zi v1)], [zi v1], h1) (by decide +kernel) rfl ?_
  refine zG_case (fun c3 => ?_) (fun c3 => ?_)
  · refine zG_tin (k := 0) (off := 94) (tgt := 100) (dflt := 202) (lo := 0) (hi := 19) (offs := #[94, 94, 101, 106, 113, 120, 125, 130, 135, 140, 147, 154, 161, 168, 177, 182, 187, 192, 192, 192]) (len := 94) c3 (by decide +kernel) (by decide +kernel) ?_
    exact zG_forget (L' := [some (zr (some (11, 333))), some (zi v1)]) (And.intro rfl (And.intro rfl trivial)) (k_Mod_count_j100 hl)
  · refine zG_case (fun c4 => ?_) (fun c4 => ?_)
    · refine zG_tin (k := 1) (off := 94) (tgt := 100) (dflt := 202) (lo := 0) (hi := 19) (offs := #[94, 94, 101, 106, 113, 120, 125, 130, 135, 140, 147, 154, 161, 168, 177, 182, 187, 192, 192, 192]) (len := 94) c4 (by decide +kernel) (by decide +kernel) ?_
      exact zG_forget (L' := [some (zr (some (11, 333))), some (zi v1)]) (And.intro rfl (And.intro rfl trivial)) (k_Mod_count_j100 hl)
    · refine zG_case (fun c6 => ?_) (fun c6 => ?_)
      · refine zG_tin (k := 2) (off := 101) (tgt := 107) (dflt := 202) (lo := 0) (hi := 19) (offs := #[94, 94, 101, 106, 113, 120, 125, 130, 135, 140, 147, 154, 161, 168, 177, 182, 187, 192, 192, 192]) (len := 94) c6 (by decide +kernel) (by decide +kernel) ?_
        refine zG_run t_Mod [(.aload_n 0, 0, 0)] (108, [some (zr (some (11, 333))), some (zi v1)], [zr (some (11, 333))], h1) (by decide +kernel) rfl ?_
        refine zG_callV (idx := 376) (R := (fun a => (some (zi a), h1))) (as := []) (rest := []) (n := 0) (fun a ha => c_Mod_seenMany hl ha) (by decide +kernel) ⟨ok_Mod_seenMany, by decide, by decide +kernel⟩ rfl w_490 w_491 w_492 (by decide) rfl rfl rfl (Nat.le_of_ble_eq_true rfl) fun x5 => ?_
        exact zG_ret (r := some (zi x5)) rfl (zrd_i rfl (by decide +kernel))
      · refine zG_case (fun c7 => ?_) (fun c7 => ?_)
        · refine zG_tin (k := 3) (off := 106) (tgt := 112) (dflt := 202) (lo := 0) (hi := 19) (offs := #[94, 94, 101, 106, 113, 120, 125, 130, 135, 140, 147, 154, 161, 168, 177, 182, 187, 192, 192, 192]) (len := 94) c7 (by decide +kernel) (by decide +kernel) ?_
          refine zG_run t_Mod [(.aload_n 0, 0, 0), (.getfield 40, 11, 3), (.iconst 2, 0, 0)] (117, [some (zr (some (11, 333))), some (zi v1)], [zi 2, zr (some (62, 336))], h1) (by decide +kernel) rfl ?_
          refine zG_aldc (v := zi (h1.1 336 2)) rfl (by decide +kernel) (by decide +kernel) rfl ?_
          exact zG_ret (r := some (zi (h1.1 336 2))) rfl (zrd_i rfl (by decide +kernel))
        · refine zG_case (fun c8 => ?_) (fun c8 => ?_)
          · refine zG_tin (k := 4) (off := 113) (tgt := 119) (dflt := 202) (lo := 0) (hi := 19) (offs := #[94, 94, 101, 106, 113, 120, 125, 130, 135, 140, 147, 154, 161, 168, 177, 182, 187, 192, 192, 192]) (len := 94) c8 (by decide +kernel) (by decide +kernel) ?_
            refine zG_run t_Mod [(.aload_n 0, 0, 0), (.getfield 74, 11, 14), (.iconst 3, 0, 0)] (124, [some (zr (some (11, 333))), some (zi v1)], [zi 3, zr (some (73, 347))], h1) (by decide +kernel) rfl ?_
            refine zG_aldc (v := zi (h1.1 347 3)) rfl (by decide +kernel) (by decide +kernel) rfl ?_
            exact zG_ret (r := some (zi (h1.1 347 3))) rfl (zrd_i rfl (by decide +kernel))
          · refine zG_case (fun c10 => ?_) (fun c10 => ?_)
            · refine zG_tin (k := 5) (off := 120) (tgt := 126) (dflt := 202) (lo := 0) (hi := 19) (offs := #[94, 94, 101, 106, 113, 120, 125, 130, 135, 140, 147, 154, 161, 168, 177, 182, 187, 192, 192, 192]) (len := 94) c10 (by decide +kernel) (by decide +kernel) ?_
              refine zG_run t_Mod [(.aload_n 0, 0, 0)] (127, [some (zr (some (11, 333))), some (zi v1)], [zr (some (11, 333))], h1) (by decide +kernel) rfl ?_
              refine zG_callV (idx := 332) (R := (fun a => (some (zi a), h1))) (as := []) (rest := []) (n := 0) (fun a ha => c_Mod_faults hl ha) (by decide +kernel) ⟨ok_Mod_faults, by decide, by decide +kernel⟩ rfl w_467 w_468 w_469 (by decide) rfl rfl rfl (Nat.le_of_ble_eq_true rfl) fun x9 => ?_
              exact zG_ret (r := some (zi x9)) rfl (zrd_i rfl (by decide +kernel))
            · refine zG_case (fun c12 => ?_) (fun c12 => ?_)
              · refine zG_tin (k := 6) (off := 125) (tgt := 131) (dflt := 202) (lo := 0) (hi := 19) (offs := #[94, 94, 101, 106, 113, 120, 125, 130, 135, 140, 147, 154, 161, 168, 177, 182, 187, 192, 192, 192]) (len := 94) c12 (by decide +kernel) (by decide +kernel) ?_
                refine zG_run t_Mod [(.aload_n 0, 0, 0)] (132, [some (zr (some (11, 333))), some (zi v1)], [zr (some (11, 333))], h1) (by decide +kernel) rfl ?_
                refine zG_callV (idx := 379) (R := (fun a => (some (zi a), h1))) (as := []) (rest := []) (n := 0) (fun a ha => c_Mod_lostMany hl ha) (by decide +kernel) ⟨ok_Mod_lostMany, by decide, by decide +kernel⟩ rfl w_493 w_494 w_495 (by decide) rfl rfl rfl (Nat.le_of_ble_eq_true rfl) fun x11 => ?_
                exact zG_ret (r := some (zi x11)) rfl (zrd_i rfl (by decide +kernel))
              · refine zG_case (fun c14 => ?_) (fun c14 => ?_)
                · refine zG_tin (k := 7) (off := 130) (tgt := 136) (dflt := 202) (lo := 0) (hi := 19) (offs := #[94, 94, 101, 106, 113, 120, 125, 130, 135, 140, 147, 154, 161, 168, 177, 182, 187, 192, 192, 192]) (len := 94) c14 (by decide +kernel) (by decide +kernel) ?_
                  refine zG_run t_Mod [(.aload_n 0, 0, 0)] (137, [some (zr (some (11, 333))), some (zi v1)], [zr (some (11, 333))], h1) (by decide +kernel) rfl ?_
                  refine zG_callV (idx := 382) (R := (fun a => (some (zi a), h1))) (as := []) (rest := []) (n := 0) (fun a ha => c_Mod_groupsAlike hl ha) (by decide +kernel) ⟨ok_Mod_groupsAlike, by decide, by decide +kernel⟩ rfl w_502 w_503 w_504 (by decide) rfl rfl rfl (Nat.le_of_ble_eq_true rfl) fun x13 => ?_
                  exact zG_ret (r := some (zi x13)) rfl (zrd_i rfl (by decide +kernel))
                · refine zG_case (fun c16 => ?_) (fun c16 => ?_)
                  · refine zG_tin (k := 8) (off := 135) (tgt := 141) (dflt := 202) (lo := 0) (hi := 19) (offs := #[94, 94, 101, 106, 113, 120, 125, 130, 135, 140, 147, 154, 161, 168, 177, 182, 187, 192, 192, 192]) (len := 94) c16 (by decide +kernel) (by decide +kernel) ?_
                    refine zG_run t_Mod [(.aload_n 0, 0, 0)] (142, [some (zr (some (11, 333))), some (zi v1)], [zr (some (11, 333))], h1) (by decide +kernel) rfl ?_
                    refine zG_callV (idx := 385) (R := (fun a => (some (zi a), h1))) (as := []) (rest := []) (n := 0) (fun a ha => c_Mod_doneMany hl ha) (by decide +kernel) ⟨ok_Mod_doneMany, by decide, by decide +kernel⟩ rfl w_505 w_506 w_507 (by decide) rfl rfl rfl (Nat.le_of_ble_eq_true rfl) fun x15 => ?_
                    exact zG_ret (r := some (zi x15)) rfl (zrd_i rfl (by decide +kernel))
                  · refine zG_case (fun c17 => ?_) (fun c17 => ?_)
                    · refine zG_tin (k := 9) (off := 140) (tgt := 146) (dflt := 202) (lo := 0) (hi := 19) (offs := #[94, 94, 101, 106, 113, 120, 125, 130, 135, 140, 147, 154, 161, 168, 177, 182, 187, 192, 192, 192]) (len := 94) c17 (by decide +kernel) (by decide +kernel) ?_
                      refine zG_run t_Mod [(.aload_n 0, 0, 0), (.getfield 74, 11, 14), (.iconst 0, 0, 0)] (151, [some (zr (some (11, 333))), some (zi v1)], [zi 0, zr (some (73, 347))], h1) (by decide +kernel) rfl ?_
                      refine zG_aldc (v := zi (h1.1 347 0)) rfl (by decide +kernel) (by decide +kernel) rfl ?_
                      exact zG_ret (r := some (zi (h1.1 347 0))) rfl (zrd_i rfl (by decide +kernel))
                    · refine zG_case (fun c18 => ?_) (fun c18 => ?_)
                      · refine zG_tin (k := 10) (off := 147) (tgt := 153) (dflt := 202) (lo := 0) (hi := 19) (offs := #[94, 94, 101, 106, 113, 120, 125, 130, 135, 140, 147, 154, 161, 168, 177, 182, 187, 192, 192, 192]) (len := 94) c18 (by decide +kernel) (by decide +kernel) ?_
                        refine zG_run t_Mod [(.aload_n 0, 0, 0), (.getfield 74, 11, 14), (.iconst 1, 0, 0)] (158, [some (zr (some (11, 333))), some (zi v1)], [zi 1, zr (some (73, 347))], h1) (by decide +kernel) rfl ?_
                        refine zG_aldc (v := zi (h1.1 347 1)) rfl (by decide +kernel) (by decide +kernel) rfl ?_
                        exact zG_ret (r := some (zi (h1.1 347 1))) rfl (zrd_i rfl (by decide +kernel))
                      · refine zG_case (fun c19 => ?_) (fun c19 => ?_)
                        · refine zG_tin (k := 11) (off := 154) (tgt := 160) (dflt := 202) (lo := 0) (hi := 19) (offs := #[94, 94, 101, 106, 113, 120, 125, 130, 135, 140, 147, 154, 161, 168, 177, 182, 187, 192, 192, 192]) (len := 94) c19 (by decide +kernel) (by decide +kernel) ?_
                          refine zG_run t_Mod [(.aload_n 0, 0, 0), (.getfield 74, 11, 14), (.iconst 2, 0, 0)] (165, [some (zr (some (11, 333))), some (zi v1)], [zi 2, zr (some (73, 347))], h1) (by decide +kernel) rfl ?_
                          refine zG_aldc (v := zi (h1.1 347 2)) rfl (by decide +kernel) (by decide +kernel) rfl ?_
                          exact zG_ret (r := some (zi (h1.1 347 2))) rfl (zrd_i rfl (by decide +kernel))
                        · refine zG_case (fun c20 => ?_) (fun c20 => ?_)
                          · refine zG_tin (k := 12) (off := 161) (tgt := 167) (dflt := 202) (lo := 0) (hi := 19) (offs := #[94, 94, 101, 106, 113, 120, 125, 130, 135, 140, 147, 154, 161, 168, 177, 182, 187, 192, 192, 192]) (len := 94) c20 (by decide +kernel) (by decide +kernel) ?_
                            refine zG_run t_Mod [(.aload_n 0, 0, 0), (.getfield 74, 11, 14), (.iconst 4, 0, 0)] (172, [some (zr (some (11, 333))), some (zi v1)], [zi 4, zr (some (73, 347))], h1) (by decide +kernel) rfl ?_
                            refine zG_aldc (v := zi (h1.1 347 4)) rfl (by decide +kernel) (by decide +kernel) rfl ?_
                            exact zG_ret (r := some (zi (h1.1 347 4))) rfl (zrd_i rfl (by decide +kernel))
                          · refine zG_case (fun c22 => ?_) (fun c22 => ?_)
                            · refine zG_tin (k := 13) (off := 168) (tgt := 174) (dflt := 202) (lo := 0) (hi := 19) (offs := #[94, 94, 101, 106, 113, 120, 125, 130, 135, 140, 147, 154, 161, 168, 177, 182, 187, 192, 192, 192]) (len := 94) c22 (by decide +kernel) (by decide +kernel) ?_
                              refine zG_run t_Mod [(.aload_n 0, 0, 0)] (175, [some (zr (some (11, 333))), some (zi v1)], [zr (some (11, 333))], h1) (by decide +kernel) rfl ?_
                              refine zG_callV (idx := 388) (R := (fun a => (none, a))) (as := []) (rest := []) (n := 0) (fun a ha => c_Mod_tellProgram hl ha) (by decide +kernel) ⟨ok_Mod_tellProgram, by decide, by decide +kernel⟩ rfl w_523 w_524 w_525 (by decide) rfl rfl rfl (Nat.le_of_ble_eq_true rfl) fun x21 => ?_
                              refine zG_run t_Mod [(.aload_n 0, 0, 0), (.getfield 361, 11, 40)] (182, [some (zr (some (11, 333))), some (zi v1)], [zi (x21.1 333 40)], x21) (by decide +kernel) rfl ?_
                              exact zG_ret (r := some (zi (x21.1 333 40))) rfl (zrd_i rfl (by decide +kernel))
                            · refine zG_case (fun c23 => ?_) (fun c23 => ?_)
                              · refine zG_tin (k := 14) (off := 177) (tgt := 183) (dflt := 202) (lo := 0) (hi := 19) (offs := #[94, 94, 101, 106, 113, 120, 125, 130, 135, 140, 147, 154, 161, 168, 177, 182, 187, 192, 192, 192]) (len := 94) c23 (by decide +kernel) (by decide +kernel) ?_
                                refine zG_run t_Mod [(.aload_n 0, 0, 0), (.getfield 301, 11, 45)] (187, [some (zr (some (11, 333))), some (zi v1)], [zi (h1.1 333 45)], h1) (by decide +kernel) rfl ?_
                                exact zG_ret (r := some (zi (h1.1 333 45))) rfl (zrd_i rfl (by decide +kernel))
                              · refine zG_case (fun c24 => ?_) (fun c24 => ?_)
                                · refine zG_tin (k := 15) (off := 182) (tgt := 188) (dflt := 202) (lo := 0) (hi := 19) (offs := #[94, 94, 101, 106, 113, 120, 125, 130, 135, 140, 147, 154, 161, 168, 177, 182, 187, 192, 192, 192]) (len := 94) c24 (by decide +kernel) (by decide +kernel) ?_
                                  refine zG_run t_Mod [(.aload_n 0, 0, 0), (.getfield 304, 11, 47)] (192, [some (zr (some (11, 333))), some (zi v1)], [zi (h1.1 333 47)], h1) (by decide +kernel) rfl ?_
                                  exact zG_ret (r := some (zi (h1.1 333 47))) rfl (zrd_i rfl (by decide +kernel))
                                · refine zG_case (fun c25 => ?_) (fun c25 => ?_)
                                  · refine zG_tin (k := 16) (off := 187) (tgt := 193) (dflt := 202) (lo := 0) (hi := 19) (offs := #[94, 94, 101, 106, 113, 120, 125, 130, 135, 140, 147, 154, 161, 168, 177, 182, 187, 192, 192, 192]) (len := 94) c25 (by decide +kernel) (by decide +kernel) ?_
                                    refine zG_run t_Mod [(.aload_n 0, 0, 0), (.getfield 184, 11, 17)] (197, [some (zr (some (11, 333))), some (zi v1)], [zi (h1.1 333 17)], h1) (by decide +kernel) rfl ?_
                                    exact zG_ret (r := some (zi (h1.1 333 17))) rfl (zrd_i rfl (by decide +kernel))
                                  · refine zG_case (fun c27 => ?_) (fun c27 => ?_)
                                    · refine zG_tin (k := 17) (off := 192) (tgt := 198) (dflt := 202) (lo := 0) (hi := 19) (offs := #[94, 94, 101, 106, 113, 120, 125, 130, 135, 140, 147, 154, 161, 168, 177, 182, 187, 192, 192, 192]) (len := 94) c27 (by decide +kernel) (by decide +kernel) ?_
                                      exact zG_forget (L' := [some (zr (some (11, 333))), some (zi v1)]) (And.intro rfl (And.intro rfl trivial)) (k_Mod_count_j198 hl)
                                    · refine zG_case (fun c28 => ?_) (fun c28 => ?_)
                                      · refine zG_tin (k := 18) (off := 192) (tgt := 198) (dflt := 202) (lo := 0) (hi := 19) (offs := #[94, 94, 101, 106, 113, 120, 125, 130, 135, 140, 147, 154, 161, 168, 177, 182, 187, 192, 192, 192]) (len := 94) c28 (by decide +kernel) (by decide +kernel) ?_
                                        exact zG_forget (L' := [some (zr (some (11, 333))), some (zi v1)]) (And.intro rfl (And.intro rfl trivial)) (k_Mod_count_j198 hl)
                                      · refine zG_case (fun c29 => ?_) (fun c29 => ?_)
                                        · refine zG_tin (k := 19) (off := 192) (tgt := 198) (dflt := 202) (lo := 0) (hi := 19) (offs := #[94, 94, 101, 106, 113, 120, 125, 130, 135, 140, 147, 154, 161, 168, 177, 182, 187, 192, 192, 192]) (len := 94) c29 (by decide +kernel) (by decide +kernel) ?_
                                          exact zG_forget (L' := [some (zr (some (11, 333))), some (zi v1)]) (And.intro rfl (And.intro rfl trivial)) (k_Mod_count_j198 hl)
                                        · have e0 : Int32.toInt v1 ≠ 0 := zne (k := 0) c3
                                          have e1 : Int32.toInt v1 ≠ 1 := zne (k := 1) c4
                                          have e2 : Int32.toInt v1 ≠ 2 := zne (k := 2) c6
                                          have e3 : Int32.toInt v1 ≠ 3 := zne (k := 3) c7
                                          have e4 : Int32.toInt v1 ≠ 4 := zne (k := 4) c8
                                          have e5 : Int32.toInt v1 ≠ 5 := zne (k := 5) c10
                                          have e6 : Int32.toInt v1 ≠ 6 := zne (k := 6) c12
                                          have e7 : Int32.toInt v1 ≠ 7 := zne (k := 7) c14
                                          have e8 : Int32.toInt v1 ≠ 8 := zne (k := 8) c16
                                          have e9 : Int32.toInt v1 ≠ 9 := zne (k := 9) c17
                                          have e10 : Int32.toInt v1 ≠ 10 := zne (k := 10) c18
                                          have e11 : Int32.toInt v1 ≠ 11 := zne (k := 11) c19
                                          have e12 : Int32.toInt v1 ≠ 12 := zne (k := 12) c20
                                          have e13 : Int32.toInt v1 ≠ 13 := zne (k := 13) c22
                                          have e14 : Int32.toInt v1 ≠ 14 := zne (k := 14) c23
                                          have e15 : Int32.toInt v1 ≠ 15 := zne (k := 15) c24
                                          have e16 : Int32.toInt v1 ≠ 16 := zne (k := 16) c25
                                          have e17 : Int32.toInt v1 ≠ 17 := zne (k := 17) c27
                                          have e18 : Int32.toInt v1 ≠ 18 := zne (k := 18) c28
                                          have e19 : Int32.toInt v1 ≠ 19 := zne (k := 19) c29
                                          refine zG_tout (tgt := 208) (dflt := 202) (lo := 0) (hi := 19) (offs := #[94, 94, 101, 106, 113, 120, 125, 130, 135, 140, 147, 154, 161, 168, 177, 182, 187, 192, 192, 192]) (len := 94) (by omega) (by decide +kernel) rfl ?_
                                          refine zG_run t_Mod [(.aload_n 0, 0, 0), (.iconst 1, 0, 0)] (210, [some (zr (some (11, 333))), some (zi v1)], [zi 1, zr (some (11, 333))], h1) (by decide +kernel) rfl ?_
                                          refine zG_callV (idx := 288) (R := (fun a => (some (zi a.1), a.2))) (as := [zi 1]) (rest := []) (n := 1) (fun a ha => c_Mod_fail hl ha) (by decide +kernel) ⟨ok_Mod_fail, by decide, by decide +kernel⟩ rfl w_378 w_379 w_380 (by decide) rfl rfl rfl (Nat.le_of_ble_eq_true rfl) fun x30 => ?_
                                          exact zG_ret (r := some (zi x30.1)) rfl (zrd_i rfl (by decide +kernel))
theorem c_Mod_count {l : Launch} {X : zX} (hl : l.stackTraces = false) {h : zH} {v1 : Int32} {x : Int32 × zH} (hx : f_Mod_count h v1 = some x) : zCt l (true, 2) 2 m_Mod_count X 0 0 [zr (some (11, 333)), zi v1] h ((fun a => (.inl (some (zi a.1)), a.2) : Int32 × zH → zF) x) :=
  zG_ct (R := fun a => (.inl (some (zi a.1)), a.2)) (x := x) ok_Mod_count hl (Nat.le_of_ble_eq_true rfl) hx (k_Mod_count hl)
def m_Mod_isIn : zM := (({ cls := "ScanPackerModel", name := "isIn", desc := "(III)Z" } : Jvm.MethodName), prog_13_method_4_code, 3, (Option.some Jvm.ClassFile.FieldType.boolean), [], 1)
theorem ok_Mod_isIn : zMok m_Mod_isIn := ⟨by decide +kernel, zW_of 1854 (by decide +kernel) (by decide +kernel), zW_of 134 (by decide +kernel) (by decide +kernel), by decide, by decide +kernel, by decide +kernel⟩
set_option maxRecDepth 20000 in
theorem k_Mod_isIn {l : Launch} {X : zX} (hl : l.stackTraces = false) {h : zH} {v0 : Int32} {v1 : Int32} {v2 : Int32} : zGl l m_Mod_isIn X 0 0 (f_Mod_isIn v0 v1 v2) (0, [some (zi v0), some (zi v1), some (zi v2)], [], h) (fun x => .inr ((fun a => (.inl (some (zi a)), h) : Int32 → zF) x)) := by
  unfold f_Mod_isIn
  refine zG_run t_Mod [(.iload_n 0, 0, 0), (.iload_n 1, 0, 0)] (2, [some (zi v0), some (zi v1), some (zi v2)], [zi v1, zi v0], h) (by decide +kernel) rfl ?_
  refine zG_icmp (op := .lt) (off := 12) (tgt := 14) (by decide +kernel) rfl Iff.rfl (fun c2 => ?_) (fun c2 => ?_)
  · refine zG_run t_Mod [(.iconst 0, 0, 0)] (15, [some (zi v0), some (zi v1), some (zi v2)], [zi 0], h) (by decide +kernel) rfl ?_
    exact zG_ret (r := some (zi 0)) rfl (zrd_z rfl (by decide +kernel) rfl)
  · refine zG_run t_Mod [(.iload_n 0, 0, 0), (.iload_n 2, 0, 0)] (7, [some (zi v0), some (zi v1), some (zi v2)], [zi v2, zi v0], h) (by decide +kernel) rfl ?_
    refine zG_icmp (op := .gt) (off := 7) (tgt := 14) (by decide +kernel) rfl Iff.rfl (fun c1 => ?_) (fun c1 => ?_)
    · refine zG_run t_Mod [(.iconst 0, 0, 0)] (15, [some (zi v0), some (zi v1), some (zi v2)], [zi 0], h) (by decide +kernel) rfl ?_
      exact zG_ret (r := some (zi 0)) rfl (zrd_z rfl (by decide +kernel) rfl)
    · refine zG_run t_Mod [(.iconst 1, 0, 0), (.goto 4, 0, 0)] (15, [some (zi v0), some (zi v1), some (zi v2)], [zi 1], h) (by decide +kernel) rfl ?_
      exact zG_ret (r := some (zi 1)) rfl (zrd_z rfl (by decide +kernel) rfl)
theorem c_Mod_isIn {l : Launch} {X : zX} (hl : l.stackTraces = false) {h : zH} {v0 : Int32} {v1 : Int32} {v2 : Int32} {x : Int32} (hx : f_Mod_isIn v0 v1 v2 = some x) : zCt l (true, 2) 2 m_Mod_isIn X 0 0 [zi v0, zi v1, zi v2] h ((fun a => (.inl (some (zi a)), h) : Int32 → zF) x) :=
  zG_ct (R := fun a => (.inl (some (zi a)), h)) (x := x) ok_Mod_isIn hl (Nat.le_of_ble_eq_true rfl) hx (k_Mod_isIn hl)
def m_Mod_isLine : zM := (({ cls := "ScanPackerModel", name := "isLine", desc := "(I)Z" } : Jvm.MethodName), prog_13_method_61_code, 2, (Option.some Jvm.ClassFile.FieldType.boolean), [], 2)
theorem ok_Mod_isLine : zMok m_Mod_isLine := ⟨by decide +kernel, zW_of 1851 (by decide +kernel) (by decide +kernel), zW_of 134 (by decide +kernel) (by decide +kernel), by decide, by decide +kernel, by decide +kernel⟩
set_option maxRecDepth 20000 in
theorem k_Mod_isLine {l : Launch} {X : zX} (hl : l.stackTraces = false) {h : zH} {v1 : Int32} : zGl l m_Mod_isLine X 0 0 (f_Mod_isLine h v1) (0, [some (zr (some (11, 333))), some (zi v1)], [], h) (fun x => .inr ((fun a => (.inl (some (zi a)), h) : Int32 → zF) x)) := by
  unfold f_Mod_isLine
  refine zG_run t_Mod [(.iload_n 1, 0, 0), (.iconst 0, 0, 0), (.aload_n 0, 0, 0)] (3, [some (zr (some (11, 333))), some (zi v1)], [zr (some (11, 333)), zi 0, zi v1], h) (by decide +kernel) rfl ?_
  refine zG_callV (idx := 311) (R := (fun a => (some (zi a), h))) (as := []) (rest := [zi 0, zi v1]) (n := 0) (fun a ha => c_Mod_lines hl ha) (by decide +kernel) ⟨ok_Mod_lines, by decide, by decide +kernel⟩ rfl w_455 w_456 w_457 (by decide) rfl rfl rfl (Nat.le_of_ble_eq_true rfl) fun x1 => ?_
  refine zG_run t_Mod [(.iconst 1, 0, 0), (.isub, 0, 0)] (8, [some (zr (some (11, 333))), some (zi v1)], [zi (x1 - 1), zi 0, zi v1], h) (by decide +kernel) rfl ?_
  refine zG_callS (idx := 391) (R := (fun a => (some (zi a), h))) (as := [zi v1, zi 0, zi (x1 - 1)]) (rest := []) (n := 3) (fun a ha => c_Mod_isIn hl ha) (by decide +kernel) ⟨ok_Mod_isIn, by decide, by decide +kernel⟩ rfl w_526 w_527 rfl rfl (Nat.le_of_ble_eq_true rfl) fun x2 => ?_
  refine zG_guard fun hb3 => ?_
  exact zG_ret (r := some (zi x2)) rfl (zrd_z rfl (by decide +kernel) hb3)
theorem c_Mod_isLine {l : Launch} {X : zX} (hl : l.stackTraces = false) {h : zH} {v1 : Int32} {x : Int32} (hx : f_Mod_isLine h v1 = some x) : zCt l (true, 2) 2 m_Mod_isLine X 0 0 [zr (some (11, 333)), zi v1] h ((fun a => (.inl (some (zi a)), h) : Int32 → zF) x) :=
  zG_ct (R := fun a => (.inl (some (zi a)), h)) (x := x) ok_Mod_isLine hl (Nat.le_of_ble_eq_true rfl) hx (k_Mod_isLine hl)
def m_Mod_inMachine : zM := (({ cls := "ScanPackerModel", name := "inMachine", desc := "(I)I" } : Jvm.MethodName), prog_13_method_63_code, 2, (Option.some Jvm.ClassFile.FieldType.int), [], 3)
theorem ok_Mod_inMachine : zMok m_Mod_inMachine := ⟨by decide +kernel, zW_of 1858 (by decide +kernel) (by decide +kernel), zW_of 134 (by decide +kernel) (by decide +kernel), by decide, by decide +kernel, by decide +kernel⟩
set_option maxRecDepth 20000 in
theorem k_Mod_inMachine {l : Launch} {X : zX} (hl : l.stackTraces = false) {h : zH} {v1 : Int32} : zGl l m_Mod_inMachine X 0 0 (f_Mod_inMachine h v1) (0, [some (zr (some (11, 333))), some (zi v1)], [], h) (fun x => .inr ((fun a => (.inl (some (zi a.1)), a.2) : Int32 × zH → zF) x)) := by
  unfold f_Mod_inMachine
  refine zG_run t_Mod [(.aload_n 0, 0, 0), (.aload_n 0, 0, 0), (.getfield 74, 11, 14), (.iconst 0, 0, 0)] (6, [some (zr (some (11, 333))), some (zi v1)], [zi 0, zr (some (73, 347)), zr (some (11, 333))], h) (by decide +kernel) rfl ?_
  refine zG_aldc (v := zi (h.1 347 0)) rfl (by decide +kernel) (by decide +kernel) rfl ?_
  refine zG_callV (idx := 326) (R := (fun a => (none, a))) (as := [zi (h.1 347 0)]) (rest := []) (n := 1) (fun a ha => c_Mod_putRow hl ha) (by decide +kernel) ⟨ok_Mod_putRow, by decide, by decide +kernel⟩ rfl w_452 w_453 w_454 (by decide) rfl rfl rfl (Nat.le_of_ble_eq_true rfl) fun x1 => ?_
  refine zG_run t_Mod [(.aload_n 0, 0, 0), (.aload_n 0, 0, 0), (.getfield 74, 11, 14), (.iconst 2, 0, 0)] (16, [some (zr (some (11, 333))), some (zi v1)], [zi 2, zr (some (73, 347)), zr (some (11, 333))], x1) (by decide +kernel) rfl ?_
  refine zG_aldc (v := zi (x1.1 347 2)) rfl (by decide +kernel) (by decide +kernel) rfl ?_
  refine zG_callV (idx := 317) (R := (fun a => (none, a))) (as := [zi (x1.1 347 2)]) (rest := []) (n := 1) (fun a ha => c_Mod_tellLines hl ha) (by decide +kernel) ⟨ok_Mod_tellLines, by decide, by decide +kernel⟩ rfl w_461 w_462 w_463 (by decide) rfl rfl rfl (Nat.le_of_ble_eq_true rfl) fun x2 => ?_
  refine zG_run t_Mod [(.aload_n 0, 0, 0), (.getfield 90, 11, 28), (.iload_n 1, 0, 0)] (25, [some (zr (some (11, 333))), some (zi v1)], [zi v1, zr (some (77, 351))], x2) (by decide +kernel) rfl ?_
  refine zG_ald (v := zi (x2.1 351 v1.toNatClampNeg)) (n := 22) rfl (by decide +kernel) rfl rfl fun hb3 => ?_
  exact zG_ret (r := some (zi (x2.1 351 v1.toNatClampNeg))) rfl (zrd_i rfl (by decide +kernel))
theorem c_Mod_inMachine {l : Launch} {X : zX} (hl : l.stackTraces = false) {h : zH} {v1 : Int32} {x : Int32 × zH} (hx : f_Mod_inMachine h v1 = some x) : zCt l (true, 2) 2 m_Mod_inMachine X 0 0 [zr (some (11, 333)), zi v1] h ((fun a => (.inl (some (zi a.1)), a.2) : Int32 × zH → zF) x) :=
  zG_ct (R := fun a => (.inl (some (zi a.1)), a.2)) (x := x) ok_Mod_inMachine hl (Nat.le_of_ble_eq_true rfl) hx (k_Mod_inMachine hl)
def m_Mod_line : zM := (({ cls := "ScanPackerModel", name := "line", desc := "(II)I" } : Jvm.MethodName), prog_13_method_64_code, 4, (Option.some Jvm.ClassFile.FieldType.int), [], 4)
theorem ok_Mod_line : zMok m_Mod_line := ⟨by decide +kernel, zW_of 1847 (by decide +kernel) (by decide +kernel), zW_of 134 (by decide +kernel) (by decide +kernel), by decide, by decide +kernel, by decide +kernel⟩
set_option maxRecDepth 20000 in
theorem k_Mod_line_j106 {l : Launch} {X : zX} (hl : l.stackTraces = false) {h : zH} {v1 : Int32} {v2 : Int32} : zGl l m_Mod_line X 0 0 (f_Mod_line_j106 h v1 v2) (106, [some (zr (some (11, 333))), some (zi v1), some (zi v2), none], [], h) (fun x => .inr ((fun a => (.inl (some (zi a.1)), a.2) : Int32 × zH → zF) x)) := by
  unfold f_Mod_line_j106
  refine zG_run t_Mod [(.iload_n 2, 0, 0), (.iconst 2, 0, 0), (.isub, 0, 0), (.aload_n 0, 0, 0), (.getfield 47, 11, 5), (.iload_n 1, 0, 0)] (114, [some (zr (some (11, 333))), some (zi v1), some (zi v2), none], [zi v1, zr (some (64, 338)), zi (v2 - 2)], h) (by decide +kernel) rfl ?_
  refine zG_ald (v := zi (h.1 338 v1.toNatClampNeg)) (n := 44) rfl (by decide +kernel) rfl rfl fun hb7 => ?_
  refine zG_icmp (op := .ge) (off := 18) (tgt := 133) (by decide +kernel) rfl Iff.rfl (fun c9 => ?_) (fun c9 => ?_)
  · refine zG_run t_Mod [(.iconst (-1), 0, 0)] (134, [some (zr (some (11, 333))), some (zi v1), some (zi v2), none], [zi (-1)], h) (by decide +kernel) rfl ?_
    exact zG_ret (r := some (zi (-1))) rfl (zrd_i rfl (by decide +kernel))
  · refine zG_run t_Mod [(.aload_n 0, 0, 0), (.getfield 50, 11, 6), (.iconst 3, 0, 0), (.iload_n 1, 0, 0), (.imul, 0, 0), (.iload_n 2, 0, 0), (.iadd, 0, 0), (.iconst 2, 0, 0), (.isub, 0, 0)] (129, [some (zr (some (11, 333))), some (zi v1), some (zi v2), none], [zi (((3 * v1) + v2) - 2), zr (some (65, 339))], h) (by decide +kernel) rfl ?_
    refine zG_ald (v := zi (h.1 339 (((3 * v1) + v2) - 2).toNatClampNeg)) (n := 132) rfl (by decide +kernel) rfl rfl fun hb8 => ?_
    refine zG_run t_Mod [(.goto 4, 0, 0)] (134, [some (zr (some (11, 333))), some (zi v1), some (zi v2), none], [zi (h.1 339 (((3 * v1) + v2) - 2).toNatClampNeg)], h) (by decide +kernel) rfl ?_
    exact zG_ret (r := some (zi (h.1 339 (((3 * v1) + v2) - 2).toNatClampNeg))) rfl (zrd_i rfl (by decide +kernel))
set_option maxRecDepth 20000 in
theorem k_Mod_line_j34 {l : Launch} {X : zX} (hl : l.stackTraces = false) {h : zH} {v1 : Int32} {v2 : Int32} {t0 : Int32} : zGl l m_Mod_line X 0 0 (f_Mod_line_j34 h v1 v2 t0) (34, [some (zr (some (11, 333))), some (zi v1), some (zi v2), none], [zi t0], h) (fun x => .inr ((fun a => (.inl (some (zi a.1)), a.2) : Int32 × zH → zF) x)) := by
  unfold f_Mod_line_j34
  refine zG_run t_Mod [(.istore_n 3, 0, 0), (.iload_n 2, 0, 0)] (36, [some (zr (some (11, 333))), some (zi v1), some (zi v2), some (zi t0)], [zi v2], h) (by decide +kernel) rfl ?_
  refine zG_case (fun c4 => ?_) (fun c4 => ?_)
  · refine zG_tin (k := 0) (off := 56) (tgt := 92) (dflt := 156) (lo := 0) (hi := 9) (offs := #[56, 63, 70, 70, 70, 99, 113, 119, 134, 149]) (len := 56) c4 (by decide +kernel) (by decide +kernel) ?_
    refine zG_run t_Mod [(.aload_n 0, 0, 0), (.getfield 44, 11, 4), (.iload_n 1, 0, 0)] (97, [some (zr (some (11, 333))), some (zi v1), some (zi v2), some (zi t0)], [zi v1, zr (some (63, 337))], h) (by decide +kernel) rfl ?_
    refine zG_ald (v := zi (h.1 337 v1.toNatClampNeg)) (n := 44) rfl (by decide +kernel) rfl rfl fun hb3 => ?_
    exact zG_ret (r := some (zi (h.1 337 v1.toNatClampNeg))) rfl (zrd_i rfl (by decide +kernel))
  · refine zG_case (fun c6 => ?_) (fun c6 => ?_)
    · refine zG_tin (k := 1) (off := 63) (tgt := 99) (dflt := 156) (lo := 0) (hi := 9) (offs := #[56, 63, 70, 70, 70, 99, 113, 119, 134, 149]) (len := 56) c6 (by decide +kernel) (by decide +kernel) ?_
      refine zG_run t_Mod [(.aload_n 0, 0, 0), (.getfield 47, 11, 5), (.iload_n 1, 0, 0)] (104, [some (zr (some (11, 333))), some (zi v1), some (zi v2), some (zi t0)], [zi v1, zr (some (64, 338))], h) (by decide +kernel) rfl ?_
      refine zG_ald (v := zi (h.1 338 v1.toNatClampNeg)) (n := 44) rfl (by decide +kernel) rfl rfl fun hb5 => ?_
      exact zG_ret (r := some (zi (h.1 338 v1.toNatClampNeg))) rfl (zrd_i rfl (by decide +kernel))
    · refine zG_case (fun c10 => ?_) (fun c10 => ?_)
      · refine zG_tin (k := 2) (off := 70) (tgt := 106) (dflt := 156) (lo := 0) (hi := 9) (offs := #[56, 63, 70, 70, 70, 99, 113, 119, 134, 149]) (len := 56) c10 (by decide +kernel) (by decide +kernel) ?_
        exact zG_forget (L' := [some (zr (some (11, 333))), some (zi v1), some (zi v2), none]) (And.intro rfl (And.intro rfl (And.intro rfl trivial))) (k_Mod_line_j106 hl)
      · refine zG_case (fun c11 => ?_) (fun c11 => ?_)
        · refine zG_tin (k := 3) (off := 70) (tgt := 106) (dflt := 156) (lo := 0) (hi := 9) (offs := #[56, 63, 70, 70, 70, 99, 113, 119, 134, 149]) (len := 56) c11 (by decide +kernel) (by decide +kernel) ?_
          exact zG_forget (L' := [some (zr (some (11, 333))), some (zi v1), some (zi v2), none]) (And.intro rfl (And.intro rfl (And.intro rfl trivial))) (k_Mod_line_j106 hl)
        · refine zG_case (fun c12 => ?_) (fun c12 => ?_)
          · refine zG_tin (k := 4) (off := 70) (tgt := 106) (dflt := 156) (lo := 0) (hi := 9) (offs := #[56, 63, 70, 70, 70, 99, 113, 119, 134, 149]) (len := 56) c12 (by decide +kernel) (by decide +kernel) ?_
            exact zG_forget (L' := [some (zr (some (11, 333))), some (zi v1), some (zi v2), none]) (And.intro rfl (And.intro rfl (And.intro rfl trivial))) (k_Mod_line_j106 hl)
          · refine zG_case (fun c15 => ?_) (fun c15 => ?_)
            · refine zG_tin (k := 5) (off := 99) (tgt := 135) (dflt := 156) (lo := 0) (hi := 9) (offs := #[56, 63, 70, 70, 70, 99, 113, 119, 134, 149]) (len := 56) c15 (by decide +kernel) (by decide +kernel) ?_
              refine zG_run t_Mod [(.aload_n 0, 0, 0), (.iload_n 1, 0, 0)] (137, [some (zr (some (11, 333))), some (zi v1), some (zi v2), some (zi t0)], [zi v1, zr (some (11, 333))], h) (by decide +kernel) rfl ?_
              refine zG_callV (idx := 320) (R := (fun a => (some (zi a), h))) (as := [zi v1]) (rest := []) (n := 1) (fun a ha => c_Mod_isSeen hl ha) (by decide +kernel) ⟨ok_Mod_isSeen, by decide, by decide +kernel⟩ rfl w_470 w_471 w_472 (by decide) rfl rfl rfl (Nat.le_of_ble_eq_true rfl) fun x13 => ?_
              refine zG_if (op := .eq) (off := 7) (tgt := 147) (by decide +kernel) rfl Iff.rfl (fun c14 => ?_) (fun c14 => ?_)
              · refine zG_run t_Mod [(.iconst 0, 0, 0)] (148, [some (zr (some (11, 333))), some (zi v1), some (zi v2), some (zi t0)], [zi 0], h) (by decide +kernel) rfl ?_
                exact zG_ret (r := some (zi 0)) rfl (zrd_i rfl (by decide +kernel))
              · refine zG_run t_Mod [(.iconst 1, 0, 0), (.goto 4, 0, 0)] (148, [some (zr (some (11, 333))), some (zi v1), some (zi v2), some (zi t0)], [zi 1], h) (by decide +kernel) rfl ?_
                exact zG_ret (r := some (zi 1)) rfl (zrd_i rfl (by decide +kernel))
            · refine zG_case (fun c17 => ?_) (fun c17 => ?_)
              · refine zG_tin (k := 6) (off := 113) (tgt := 149) (dflt := 156) (lo := 0) (hi := 9) (offs := #[56, 63, 70, 70, 70, 99, 113, 119, 134, 149]) (len := 56) c17 (by decide +kernel) (by decide +kernel) ?_
                refine zG_run t_Mod [(.aload_n 0, 0, 0), (.iload_n 1, 0, 0)] (151, [some (zr (some (11, 333))), some (zi v1), some (zi v2), some (zi t0)], [zi v1, zr (some (11, 333))], h) (by decide +kernel) rfl ?_
                refine zG_callV (idx := 398) (R := (fun a => (some (zi a.1), a.2))) (as := [zi v1]) (rest := []) (n := 1) (fun a ha => c_Mod_inMachine hl ha) (by decide +kernel) ⟨ok_Mod_inMachine, by decide, by decide +kernel⟩ rfl w_531 w_532 w_533 (by decide) rfl rfl rfl (Nat.le_of_ble_eq_true rfl) fun x16 => ?_
                exact zG_ret (r := some (zi x16.1)) rfl (zrd_i rfl (by decide +kernel))
              · refine zG_case (fun c20 => ?_) (fun c20 => ?_)
                · refine zG_tin (k := 7) (off := 119) (tgt := 155) (dflt := 156) (lo := 0) (hi := 9) (offs := #[56, 63, 70, 70, 70, 99, 113, 119, 134, 149]) (len := 56) c20 (by decide +kernel) (by decide +kernel) ?_
                  refine zG_run t_Mod [(.iload_n 3, 0, 0)] (156, [some (zr (some (11, 333))), some (zi v1), some (zi v2), some (zi t0)], [zi t0], h) (by decide +kernel) rfl ?_
                  refine zG_if (op := .eq) (off := 12) (tgt := 168) (by decide +kernel) rfl Iff.rfl (fun c19 => ?_) (fun c19 => ?_)
                  · refine zG_run t_Mod [(.iconst (-1), 0, 0)] (169, [some (zr (some (11, 333))), some (zi v1), some (zi v2), some (zi t0)], [zi (-1)], h) (by decide +kernel) rfl ?_
                    exact zG_ret (r := some (zi (-1))) rfl (zrd_i rfl (by decide +kernel))
                  · refine zG_run t_Mod [(.aload_n 0, 0, 0), (.getfield 56, 11, 8), (.iload_n 1, 0, 0)] (164, [some (zr (some (11, 333))), some (zi v1), some (zi v2), some (zi t0)], [zi v1, zr (some (67, 341))], h) (by decide +kernel) rfl ?_
                    refine zG_ald (v := zi (h.1 341 v1.toNatClampNeg)) (n := 12) rfl (by decide +kernel) rfl rfl fun hb18 => ?_
                    refine zG_run t_Mod [(.goto 4, 0, 0)] (169, [some (zr (some (11, 333))), some (zi v1), some (zi v2), some (zi t0)], [zi (h.1 341 v1.toNatClampNeg)], h) (by decide +kernel) rfl ?_
                    exact zG_ret (r := some (zi (h.1 341 v1.toNatClampNeg))) rfl (zrd_i rfl (by decide +kernel))
                · refine zG_case (fun c23 => ?_) (fun c23 => ?_)
                  · refine zG_tin (k := 8) (off := 134) (tgt := 170) (dflt := 156) (lo := 0) (hi := 9) (offs := #[56, 63, 70, 70, 70, 99, 113, 119, 134, 149]) (len := 56) c23 (by decide +kernel) (by decide +kernel) ?_
                    refine zG_run t_Mod [(.iload_n 3, 0, 0)] (171, [some (zr (some (11, 333))), some (zi v1), some (zi v2), some (zi t0)], [zi t0], h) (by decide +kernel) rfl ?_
                    refine zG_if (op := .eq) (off := 12) (tgt := 183) (by decide +kernel) rfl Iff.rfl (fun c22 => ?_) (fun c22 => ?_)
                    · refine zG_run t_Mod [(.iconst (-1), 0, 0)] (184, [some (zr (some (11, 333))), some (zi v1), some (zi v2), some (zi t0)], [zi (-1)], h) (by decide +kernel) rfl ?_
                      exact zG_ret (r := some (zi (-1))) rfl (zrd_i rfl (by decide +kernel))
                    · refine zG_run t_Mod [(.aload_n 0, 0, 0), (.getfield 59, 11, 9), (.iload_n 1, 0, 0)] (179, [some (zr (some (11, 333))), some (zi v1), some (zi v2), some (zi t0)], [zi v1, zr (some (68, 342))], h) (by decide +kernel) rfl ?_
                      refine zG_ald (v := zi (h.1 342 v1.toNatClampNeg)) (n := 12) rfl (by decide +kernel) rfl rfl fun hb21 => ?_
                      refine zG_run t_Mod [(.goto 4, 0, 0)] (184, [some (zr (some (11, 333))), some (zi v1), some (zi v2), some (zi t0)], [zi (h.1 342 v1.toNatClampNeg)], h) (by decide +kernel) rfl ?_
                      exact zG_ret (r := some (zi (h.1 342 v1.toNatClampNeg))) rfl (zrd_i rfl (by decide +kernel))
                  · refine zG_case (fun c25 => ?_) (fun c25 => ?_)
                    · refine zG_tin (k := 9) (off := 149) (tgt := 185) (dflt := 156) (lo := 0) (hi := 9) (offs := #[56, 63, 70, 70, 70, 99, 113, 119, 134, 149]) (len := 56) c25 (by decide +kernel) (by decide +kernel) ?_
                      refine zG_run t_Mod [(.aload_n 0, 0, 0), (.getfield 68, 11, 12), (.iload_n 1, 0, 0)] (190, [some (zr (some (11, 333))), some (zi v1), some (zi v2), some (zi t0)], [zi v1, zr (some (71, 345))], h) (by decide +kernel) rfl ?_
                      refine zG_ald (v := zi (h.1 345 v1.toNatClampNeg)) (n := 44) rfl (by decide +kernel) rfl rfl fun hb24 => ?_
                      exact zG_ret (r := some (zi (h.1 345 v1.toNatClampNeg))) rfl (zrd_i rfl (by decide +kernel))
                    · have e0 : Int32.toInt v2 ≠ 0 := zne (k := 0) c4
                      have e1 : Int32.toInt v2 ≠ 1 := zne (k := 1) c6
                      have e2 : Int32.toInt v2 ≠ 2 := zne (k := 2) c10
                      have e3 : Int32.toInt v2 ≠ 3 := zne (k := 3) c11
                      have e4 : Int32.toInt v2 ≠ 4 := zne (k := 4) c12
                      have e5 : Int32.toInt v2 ≠ 5 := zne (k := 5) c15
                      have e6 : Int32.toInt v2 ≠ 6 := zne (k := 6) c17
                      have e7 : Int32.toInt v2 ≠ 7 := zne (k := 7) c20
                      have e8 : Int32.toInt v2 ≠ 8 := zne (k := 8) c23
                      have e9 : Int32.toInt v2 ≠ 9 := zne (k := 9) c25
                      refine zG_tout (tgt := 192) (dflt := 156) (lo := 0) (hi := 9) (offs := #[56, 63, 70, 70, 70, 99, 113, 119, 134, 149]) (len := 56) (by omega) (by decide +kernel) rfl ?_
                      refine zG_run t_Mod [(.aload_n 0, 0, 0), (.iconst 1, 0, 0)] (194, [some (zr (some (11, 333))), some (zi v1), some (zi v2), some (zi t0)], [zi 1, zr (some (11, 333))], h) (by decide +kernel) rfl ?_
                      refine zG_callV (idx := 288) (R := (fun a => (some (zi a.1), a.2))) (as := [zi 1]) (rest := []) (n := 1) (fun a ha => c_Mod_fail hl ha) (by decide +kernel) ⟨ok_Mod_fail, by decide, by decide +kernel⟩ rfl w_378 w_379 w_380 (by decide) rfl rfl rfl (Nat.le_of_ble_eq_true rfl) fun x26 => ?_
                      exact zG_ret (r := some (zi x26.1)) rfl (zrd_i rfl (by decide +kernel))
set_option maxRecDepth 20000 in
theorem k_Mod_line {l : Launch} {X : zX} (hl : l.stackTraces = false) {h : zH} {v1 : Int32} {v2 : Int32} : zGl l m_Mod_line X 0 0 (f_Mod_line h v1 v2) (0, [some (zr (some (11, 333))), some (zi v1), some (zi v2), none], [], h) (fun x => .inr ((fun a => (.inl (some (zi a.1)), a.2) : Int32 × zH → zF) x)) := by
  unfold f_Mod_line
  refine zG_bind (fun y => (5, [some (zr (some (11, 333))), some (zi v1), some (zi v2), none], [], y)) (zG_run t_Mod [(.aload_n 0, 0, 0), (.iconst 0, 0, 0), (.putfield 181, 11, 2)] (5, [some (zr (some (11, 333))), some (zi v1), some (zi v2), none], [], zsI h 333 2 0) (by decide +kernel) rfl (zG_end (L' := [some (zr (some (11, 333))), some (zi v1), some (zi v2), none]) rfl (And.intro rfl (And.intro rfl (And.intro rfl trivial))))) fun h1 => ?_
  refine zG_run t_Mod [(.aload_n 0, 0, 0), (.iload_n 1, 0, 0)] (7, [some (zr (some (11, 333))), some (zi v1), some (zi v2), none], [zi v1, zr (some (11, 333))], h1) (by decide +kernel) rfl ?_
  refine zG_callV (idx := 395) (R := (fun a => (some (zi a), h1))) (as := [zi v1]) (rest := []) (n := 1) (fun a ha => c_Mod_isLine hl ha) (by decide +kernel) ⟨ok_Mod_isLine, by decide, by decide +kernel⟩ rfl w_528 w_529 w_530 (by decide) rfl rfl rfl (Nat.le_of_ble_eq_true rfl) fun x2 => ?_
  refine zG_if (op := .ne) (off := 9) (tgt := 19) (by decide +kernel) rfl Iff.rfl (fun c29 => ?_) (fun c29 => ?_)
  · refine zG_run t_Mod [(.iload_n 1, 0, 0), (.aload_n 0, 0, 0), (.getfield 40, 11, 3), (.iconst 0, 0, 0)] (25, [some (zr (some (11, 333))), some (zi v1), some (zi v2), none], [zi 0, zr (some (62, 336)), zi v1], h1) (by decide +kernel) rfl ?_
    refine zG_aldc (v := zi (h1.1 336 0)) rfl (by decide +kernel) (by decide +kernel) rfl ?_
    refine zG_icmp (op := .ge) (off := 7) (tgt := 33) (by decide +kernel) rfl Iff.rfl (fun c27 => ?_) (fun c27 => ?_)
    · refine zG_run t_Mod [(.iconst 0, 0, 0)] (34, [some (zr (some (11, 333))), some (zi v1), some (zi v2), none], [zi 0], h1) (by decide +kernel) rfl ?_
      exact zG_forget (L' := [some (zr (some (11, 333))), some (zi v1), some (zi v2), none]) (And.intro rfl (And.intro rfl (And.intro rfl trivial))) (k_Mod_line_j34 hl)
    · refine zG_run t_Mod [(.iconst 1, 0, 0), (.goto 4, 0, 0)] (34, [some (zr (some (11, 333))), some (zi v1), some (zi v2), none], [zi 1], h1) (by decide +kernel) rfl ?_
      exact zG_forget (L' := [some (zr (some (11, 333))), some (zi v1), some (zi v2), none]) (And.intro rfl (And.intro rfl (And.intro rfl trivial))) (k_Mod_line_j34 hl)
  · refine zG_run t_Mod [(.aload_n 0, 0, 0), (.iconst 1, 0, 0)] (15, [some (zr (some (11, 333))), some (zi v1), some (zi v2), none], [zi 1, zr (some (11, 333))], h1) (by decide +kernel) rfl ?_
    refine zG_callV (idx := 288) (R := (fun a => (some (zi a.1), a.2))) (as := [zi 1]) (rest := []) (n := 1) (fun a ha => c_Mod_fail hl ha) (by decide +kernel) ⟨ok_Mod_fail, by decide, by decide +kernel⟩ rfl w_378 w_379 w_380 (by decide) rfl rfl rfl (Nat.le_of_ble_eq_true rfl) fun x28 => ?_
    exact zG_ret (r := some (zi x28.1)) rfl (zrd_i rfl (by decide +kernel))
theorem c_Mod_line {l : Launch} {X : zX} (hl : l.stackTraces = false) {h : zH} {v1 : Int32} {v2 : Int32} {x : Int32 × zH} (hx : f_Mod_line h v1 v2 = some x) : zCt l (true, 2) 2 m_Mod_line X 0 0 [zr (some (11, 333)), zi v1, zi v2] h ((fun a => (.inl (some (zi a.1)), a.2) : Int32 × zH → zF) x) :=
  zG_ct (R := fun a => (.inl (some (zi a.1)), a.2)) (x := x) ok_Mod_line hl (Nat.le_of_ble_eq_true rfl) hx (k_Mod_line hl)
def m_Mod_letter : zM := (({ cls := "ScanPackerModel", name := "letter", desc := "(II)I" } : Jvm.MethodName), prog_13_method_65_code, 3, (Option.some Jvm.ClassFile.FieldType.int), [], 3)
theorem ok_Mod_letter : zMok m_Mod_letter := ⟨by decide +kernel, zW_of 1862 (by decide +kernel) (by decide +kernel), zW_of 134 (by decide +kernel) (by decide +kernel), by decide, by decide +kernel, by decide +kernel⟩
set_option maxRecDepth 20000 in
theorem k_Mod_letter_j43 {l : Launch} {X : zX} (hl : l.stackTraces = false) {h : zH} : zGl l m_Mod_letter X 0 0 (f_Mod_letter_j43 h) (43, [some (zr (some (11, 333))), none, none], [], h) (fun x => .inr ((fun a => (.inl (some (zi a.1)), a.2) : Int32 × zH → zF) x)) := by
  unfold f_Mod_letter_j43
  refine zG_run t_Mod [(.aload_n 0, 0, 0), (.iconst 1, 0, 0)] (45, [some (zr (some (11, 333))), none, none], [zi 1, zr (some (11, 333))], h) (by decide +kernel) rfl ?_
  refine zG_callV (idx := 288) (R := (fun a => (some (zi a.1), a.2))) (as := [zi 1]) (rest := []) (n := 1) (fun a ha => c_Mod_fail hl ha) (by decide +kernel) ⟨ok_Mod_fail, by decide, by decide +kernel⟩ rfl w_378 w_379 w_380 (by decide) rfl rfl rfl (Nat.le_of_ble_eq_true rfl) fun x3 => ?_
  exact zG_ret (r := some (zi x3.1)) rfl (zrd_i rfl (by decide +kernel))
set_option maxRecDepth 20000 in
theorem k_Mod_letter {l : Launch} {X : zX} (hl : l.stackTraces = false) {h : zH} {v1 : Int32} {v2 : Int32} : zGl l m_Mod_letter X 0 0 (f_Mod_letter h v1 v2) (0, [some (zr (some (11, 333))), some (zi v1), some (zi v2)], [], h) (fun x => .inr ((fun a => (.inl (some (zi a.1)), a.2) : Int32 × zH → zF) x)) := by
  unfold f_Mod_letter
  refine zG_bind (fun y => (5, [some (zr (some (11, 333))), some (zi v1), some (zi v2)], [], y)) (zG_run t_Mod [(.aload_n 0, 0, 0), (.iconst 0, 0, 0), (.putfield 181, 11, 2)] (5, [some (zr (some (11, 333))), some (zi v1), some (zi v2)], [], zsI h 333 2 0) (by decide +kernel) rfl (zG_end (L' := [some (zr (some (11, 333))), some (zi v1), some (zi v2)]) rfl (And.intro rfl (And.intro rfl (And.intro rfl trivial))))) fun h1 => ?_
  refine zG_run t_Mod [(.aload_n 0, 0, 0), (.iload_n 1, 0, 0)] (7, [some (zr (some (11, 333))), some (zi v1), some (zi v2)], [zi v1, zr (some (11, 333))], h1) (by decide +kernel) rfl ?_
  refine zG_callV (idx := 395) (R := (fun a => (some (zi a), h1))) (as := [zi v1]) (rest := []) (n := 1) (fun a ha => c_Mod_isLine hl ha) (by decide +kernel) ⟨ok_Mod_isLine, by decide, by decide +kernel⟩ rfl w_528 w_529 w_530 (by decide) rfl rfl rfl (Nat.le_of_ble_eq_true rfl) fun x2 => ?_
  refine zG_if (op := .eq) (off := 33) (tgt := 43) (by decide +kernel) rfl Iff.rfl (fun c8 => ?_) (fun c8 => ?_)
  · exact zG_forget (L' := [some (zr (some (11, 333))), none, none]) (And.intro rfl trivial) (k_Mod_letter_j43 hl)
  · refine zG_run t_Mod [(.iload_n 2, 0, 0), (.iconst 0, 0, 0), (.aload_n 0, 0, 0), (.getfield 68, 11, 12), (.iload_n 1, 0, 0)] (20, [some (zr (some (11, 333))), some (zi v1), some (zi v2)], [zi v1, zr (some (71, 345)), zi 0, zi v2], h1) (by decide +kernel) rfl ?_
    refine zG_ald (v := zi (h1.1 345 v1.toNatClampNeg)) (n := 44) rfl (by decide +kernel) rfl rfl fun hb4 => ?_
    refine zG_run t_Mod [(.iconst 1, 0, 0), (.isub, 0, 0)] (23, [some (zr (some (11, 333))), some (zi v1), some (zi v2)], [zi ((h1.1 345 v1.toNatClampNeg) - 1), zi 0, zi v2], h1) (by decide +kernel) rfl ?_
    refine zG_callS (idx := 391) (R := (fun a => (some (zi a), h1))) (as := [zi v2, zi 0, zi ((h1.1 345 v1.toNatClampNeg) - 1)]) (rest := []) (n := 3) (fun a ha => c_Mod_isIn hl ha) (by decide +kernel) ⟨ok_Mod_isIn, by decide, by decide +kernel⟩ rfl w_526 w_527 rfl rfl (Nat.le_of_ble_eq_true rfl) fun x5 => ?_
    refine zG_if (op := .eq) (off := 17) (tgt := 43) (by decide +kernel) rfl Iff.rfl (fun c7 => ?_) (fun c7 => ?_)
    · exact zG_forget (L' := [some (zr (some (11, 333))), none, none]) (And.intro rfl trivial) (k_Mod_letter_j43 hl)
    · refine zG_run t_Mod [(.aload_n 0, 0, 0), (.getfield 71, 11, 13), (.bipush 6, 0, 0), (.iload_n 1, 0, 0), (.imul, 0, 0), (.iload_n 2, 0, 0), (.iadd, 0, 0)] (39, [some (zr (some (11, 333))), some (zi v1), some (zi v2)], [zi ((6 * v1) + v2), zr (some (72, 346))], h1) (by decide +kernel) rfl ?_
      refine zG_ald (v := zi (h1.1 346 ((6 * v1) + v2).toNatClampNeg)) (n := 264) rfl (by decide +kernel) rfl rfl fun hb6 => ?_
      refine zG_run t_Mod [(.goto 8, 0, 0)] (48, [some (zr (some (11, 333))), some (zi v1), some (zi v2)], [zi (h1.1 346 ((6 * v1) + v2).toNatClampNeg)], h1) (by decide +kernel) rfl ?_
      exact zG_ret (r := some (zi (h1.1 346 ((6 * v1) + v2).toNatClampNeg))) rfl (zrd_i rfl (by decide +kernel))
theorem c_Mod_letter {l : Launch} {X : zX} (hl : l.stackTraces = false) {h : zH} {v1 : Int32} {v2 : Int32} {x : Int32 × zH} (hx : f_Mod_letter h v1 v2 = some x) : zCt l (true, 2) 2 m_Mod_letter X 0 0 [zr (some (11, 333)), zi v1, zi v2] h ((fun a => (.inl (some (zi a.1)), a.2) : Int32 × zH → zF) x) :=
  zG_ct (R := fun a => (.inl (some (zi a.1)), a.2)) (x := x) ok_Mod_letter hl (Nat.le_of_ble_eq_true rfl) hx (k_Mod_letter hl)
