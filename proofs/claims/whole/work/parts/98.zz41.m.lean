/-! methods, by wip/whole/gen.py -/
def m_Mod_tellPlain : zM := (({ cls := "ScanPackerModel", name := "tellPlain", desc := "()V" } : Jvm.MethodName), prog_13_method_40_code, 2, (Option.none : Option Jvm.ClassFile.FieldType), [], 3)
theorem ok_Mod_tellPlain : zMok m_Mod_tellPlain := ⟨by decide +kernel, zW_of 1405 (by decide +kernel) (by decide +kernel), zW_of 134 (by decide +kernel) (by decide +kernel), by decide, by decide +kernel, by decide +kernel⟩
set_option maxRecDepth 20000 in
theorem k_Mod_tellPlain_b7 {l : Launch} {X : zX} (hl : l.stackTraces = false) {h : zH} {v1 : Int32} : zGl l m_Mod_tellPlain X 0 0 (f_Mod_tellPlain_b7 h v1) (7, [some (zr (some (11, 333))), some (zi v1)], [], h) (Sum.elim (fun s : Int32 × zH => .inl (7, [some (zr (some (11, 333))), some (zi s.1)], [], s.2)) (fun y : zH => .inl (31, [none, none], [], y))) := by
  unfold f_Mod_tellPlain_b7
  refine zG_run t_Mod [(.iload_n 1, 0, 0), (.bipush 22, 0, 0)] (10, [some (zr (some (11, 333))), some (zi v1)], [zi 22, zi v1], h) (by decide +kernel) rfl ?_
  refine zG_icmp (op := .ge) (off := 21) (tgt := 31) (by decide +kernel) rfl Iff.rfl (fun c5 => ?_) (fun c5 => ?_)
  · exact zG_end (L' := [none, none]) rfl (trivial)
  · refine zG_run t_Mod [(.aload_n 0, 0, 0), (.getfield 93, 11, 29), (.iload_n 1, 0, 0), (.aload_n 0, 0, 0), (.getfield 90, 11, 28), (.iload_n 1, 0, 0)] (23, [some (zr (some (11, 333))), some (zi v1)], [zi v1, zr (some (77, 351)), zi v1, zr (some (78, 352))], h) (by decide +kernel) rfl ?_
    refine zG_ald (v := zi (h.1 351 v1.toNatClampNeg)) (n := 22) rfl (by decide +kernel) rfl rfl fun hb2 => ?_
    refine zG_guard fun hb4 => ?_
    refine zG_bind (fun y => (25, [some (zr (some (11, 333))), some (zi v1)], [], y)) (zG_astc (h' := zsI h 352 v1.toNatClampNeg (h.1 351 v1.toNatClampNeg)) rfl (by decide +kernel) hb4 rfl (zG_end (L' := [some (zr (some (11, 333))), some (zi v1)]) rfl (And.intro rfl (And.intro rfl trivial)))) fun h3 => ?_
    refine zG_run t_Mod [(.iinc 1 1, 0, 0), (.goto (-21), 0, 0)] (7, [some (zr (some (11, 333))), some (zi (v1 + 1))], [], h3) (by decide +kernel) rfl ?_
    exact zG_end (L' := [some (zr (some (11, 333))), some (zi (v1 + 1))]) rfl (And.intro rfl (And.intro rfl trivial))
set_option maxRecDepth 20000 in
theorem k_Mod_tellPlain {l : Launch} {X : zX} (hl : l.stackTraces = false) {h : zH} : zGl l m_Mod_tellPlain X 0 0 (f_Mod_tellPlain h) (0, [some (zr (some (11, 333))), none], [], h) (fun x => .inr ((fun a => (.inl none, a) : zH → zF) x)) := by
  unfold f_Mod_tellPlain
  refine zG_run t_Mod [(.aload_n 0, 0, 0), (.iconst (-1), 0, 0)] (2, [some (zr (some (11, 333))), none], [zi (-1), zr (some (11, 333))], h) (by decide +kernel) rfl ?_
  refine zG_callV (idx := 317) (R := (fun a => (none, a))) (as := [zi (-1)]) (rest := []) (n := 1) (fun a ha => c_Mod_tellLines hl ha) (by decide +kernel) ⟨ok_Mod_tellLines, by decide, by decide +kernel⟩ rfl w_461 w_462 w_463 (by decide) rfl rfl rfl (Nat.le_of_ble_eq_true rfl) fun x1 => ?_
  refine zG_run t_Mod [(.iconst 0, 0, 0), (.istore_n 1, 0, 0)] (7, [some (zr (some (11, 333))), some (zi 0)], [], x1) (by decide +kernel) rfl ?_
  refine zG_forget (L' := [some (zr (some (11, 333))), some (zi 0)]) (And.intro rfl (And.intro rfl trivial)) ?_
  refine zG_bind (fun y : zH => (31, [none, none], [], y)) (zG_iter (fun s : Int32 × zH => (7, [some (zr (some (11, 333))), some (zi s.1)], [], s.2)) fun s => k_Mod_tellPlain_b7 hl) (fun y7 => ?_)
  exact zG_ret (r := none) rfl (zrd_v rfl (by decide +kernel))
theorem c_Mod_tellPlain {l : Launch} {X : zX} (hl : l.stackTraces = false) {h : zH} {x : zH} (hx : f_Mod_tellPlain h = some x) : zCt l (true, 2) 2 m_Mod_tellPlain X 0 0 [zr (some (11, 333))] h ((fun a => (.inl none, a) : zH → zF) x) :=
  zG_ct (R := fun a => (.inl none, a)) (x := x) ok_Mod_tellPlain hl (Nat.le_of_ble_eq_true rfl) hx (k_Mod_tellPlain hl)
def m_Mod_faults : zM := (({ cls := "ScanPackerModel", name := "faults", desc := "()I" } : Jvm.MethodName), prog_13_method_41_code, 1, (Option.some Jvm.ClassFile.FieldType.int), [], 2)
theorem ok_Mod_faults : zMok m_Mod_faults := ⟨by decide +kernel, zW_of 1421 (by decide +kernel) (by decide +kernel), zW_of 134 (by decide +kernel) (by decide +kernel), by decide, by decide +kernel, by decide +kernel⟩
set_option maxRecDepth 20000 in
theorem k_Mod_faults {l : Launch} {X : zX} (hl : l.stackTraces = false) {h : zH} : zGl l m_Mod_faults X 0 0 (f_Mod_faults h) (0, [some (zr (some (11, 333)))], [], h) (fun x => .inr ((fun a => (.inl (some (zi a)), h) : Int32 → zF) x)) := by
  unfold f_Mod_faults
  refine zG_run t_Mod [(.iconst 2, 0, 0), (.aload_n 0, 0, 0)] (2, [some (zr (some (11, 333)))], [zr (some (11, 333)), zi 2], h) (by decide +kernel) rfl ?_
  refine zG_callV (idx := 311) (R := (fun a => (some (zi a), h))) (as := []) (rest := [zi 2]) (n := 0) (fun a ha => c_Mod_lines hl ha) (by decide +kernel) ⟨ok_Mod_lines, by decide, by decide +kernel⟩ rfl w_455 w_456 w_457 (by decide) rfl rfl rfl (Nat.le_of_ble_eq_true rfl) fun x1 => ?_
  refine zG_run t_Mod [(.imul, 0, 0)] (6, [some (zr (some (11, 333)))], [zi (2 * x1)], h) (by decide +kernel) rfl ?_
  exact zG_ret (r := some (zi (2 * x1))) rfl (zrd_i rfl (by decide +kernel))
theorem c_Mod_faults {l : Launch} {X : zX} (hl : l.stackTraces = false) {h : zH} {x : Int32} (hx : f_Mod_faults h = some x) : zCt l (true, 2) 2 m_Mod_faults X 0 0 [zr (some (11, 333))] h ((fun a => (.inl (some (zi a)), h) : Int32 → zF) x) :=
  zG_ct (R := fun a => (.inl (some (zi a)), h)) (x := x) ok_Mod_faults hl (Nat.le_of_ble_eq_true rfl) hx (k_Mod_faults hl)
def m_Mod_isSeen : zM := (({ cls := "ScanPackerModel", name := "isSeen", desc := "(I)Z" } : Jvm.MethodName), prog_13_method_38_code, 2, (Option.some Jvm.ClassFile.FieldType.boolean), [], 1)
theorem ok_Mod_isSeen : zMok m_Mod_isSeen := ⟨by decide +kernel, zW_of 1429 (by decide +kernel) (by decide +kernel), zW_of 134 (by decide +kernel) (by decide +kernel), by decide, by decide +kernel, by decide +kernel⟩
set_option maxRecDepth 20000 in
theorem k_Mod_isSeen {l : Launch} {X : zX} (hl : l.stackTraces = false) {h : zH} {v1 : Int32} : zGl l m_Mod_isSeen X 0 0 (f_Mod_isSeen h v1) (0, [some (zr (some (11, 333))), some (zi v1)], [], h) (fun x => .inr ((fun a => (.inl (some (zi a)), h) : Int32 → zF) x)) := by
  unfold f_Mod_isSeen
  refine zG_run t_Mod [(.aload_n 0, 0, 0), (.getfield 53, 11, 7), (.iload_n 1, 0, 0)] (5, [some (zr (some (11, 333))), some (zi v1)], [zi v1, zr (some (66, 340))], h) (by decide +kernel) rfl ?_
  refine zG_ald (v := zi (h.1 340 v1.toNatClampNeg)) (n := 44) rfl (by decide +kernel) rfl rfl fun hb1 => ?_
  refine zG_if (op := .le) (off := 7) (tgt := 13) (by decide +kernel) rfl Iff.rfl (fun c2 => ?_) (fun c2 => ?_)
  · refine zG_run t_Mod [(.iconst 0, 0, 0)] (14, [some (zr (some (11, 333))), some (zi v1)], [zi 0], h) (by decide +kernel) rfl ?_
    exact zG_ret (r := some (zi 0)) rfl (zrd_z rfl (by decide +kernel) rfl)
  · refine zG_run t_Mod [(.iconst 1, 0, 0), (.goto 4, 0, 0)] (14, [some (zr (some (11, 333))), some (zi v1)], [zi 1], h) (by decide +kernel) rfl ?_
    exact zG_ret (r := some (zi 1)) rfl (zrd_z rfl (by decide +kernel) rfl)
theorem c_Mod_isSeen {l : Launch} {X : zX} (hl : l.stackTraces = false) {h : zH} {v1 : Int32} {x : Int32} (hx : f_Mod_isSeen h v1 = some x) : zCt l (true, 2) 2 m_Mod_isSeen X 0 0 [zr (some (11, 333)), zi v1] h ((fun a => (.inl (some (zi a)), h) : Int32 → zF) x) :=
  zG_ct (R := fun a => (.inl (some (zi a)), h)) (x := x) ok_Mod_isSeen hl (Nat.le_of_ble_eq_true rfl) hx (k_Mod_isSeen hl)
def m_Mod_isCaught : zM := (({ cls := "ScanPackerModel", name := "isCaught", desc := "(I)Z" } : Jvm.MethodName), prog_13_method_39_code, 4, (Option.some Jvm.ClassFile.FieldType.boolean), [], 3)
theorem ok_Mod_isCaught : zMok m_Mod_isCaught := ⟨by decide +kernel, zW_of 1425 (by decide +kernel) (by decide +kernel), zW_of 134 (by decide +kernel) (by decide +kernel), by decide, by decide +kernel, by decide +kernel⟩
set_option maxRecDepth 20000 in
theorem k_Mod_isCaught_j69 {l : Launch} {X : zX} (hl : l.stackTraces = false) {h : zH} {v3 : Int32} {t0 : Int32} : zGl l m_Mod_isCaught X 0 0 (f_Mod_isCaught_j69 h v3 t0) (69, [some (zr (some (11, 333))), none, none, some (zi v3)], [zi t0], h) (Sum.elim (fun s : Int32 × Int32 => .inl (9, [some (zr (some (11, 333))), none, some (zi s.1), some (zi s.2)], [], h)) (fun y : Int32 => .inl (76, [none, none, some (zi y), none], [], h))) := by
  unfold f_Mod_isCaught_j69
  refine zG_run t_Mod [(.istore_n 2, 0, 0), (.iinc 3 1, 0, 0), (.goto (-64), 0, 0)] (9, [some (zr (some (11, 333))), none, some (zi t0), some (zi (v3 + 1))], [], h) (by decide +kernel) rfl ?_
  exact zG_end (L' := [some (zr (some (11, 333))), none, some (zi t0), some (zi (v3 + 1))]) rfl (And.intro rfl (And.intro rfl (And.intro rfl trivial)))
set_option maxRecDepth 20000 in
theorem k_Mod_isCaught_b9 {l : Launch} {X : zX} (hl : l.stackTraces = false) {h : zH} {v2 : Int32} {v3 : Int32} : zGl l m_Mod_isCaught X 0 0 (f_Mod_isCaught_b9 h v2 v3) (9, [some (zr (some (11, 333))), none, some (zi v2), some (zi v3)], [], h) (Sum.elim (fun s : Int32 × Int32 => .inl (9, [some (zr (some (11, 333))), none, some (zi s.1), some (zi s.2)], [], h)) (fun y : Int32 => .inl (76, [none, none, some (zi y), none], [], h))) := by
  unfold f_Mod_isCaught_b9
  refine zG_run t_Mod [(.iload_n 3, 0, 0), (.aload_n 0, 0, 0)] (11, [some (zr (some (11, 333))), none, some (zi v2), some (zi v3)], [zr (some (11, 333)), zi v3], h) (by decide +kernel) rfl ?_
  refine zG_callV (idx := 311) (R := (fun a => (some (zi a), h))) (as := []) (rest := [zi v3]) (n := 0) (fun a ha => c_Mod_lines hl ha) (by decide +kernel) ⟨ok_Mod_lines, by decide, by decide +kernel⟩ rfl w_455 w_456 w_457 (by decide) rfl rfl rfl (Nat.le_of_ble_eq_true rfl) fun x2 => ?_
  refine zG_icmp (op := .ge) (off := 62) (tgt := 76) (by decide +kernel) rfl Iff.rfl (fun c13 => ?_) (fun c13 => ?_)
  · exact zG_end (L' := [none, none, some (zi v2), none]) rfl (And.intro rfl trivial)
  · refine zG_run t_Mod [(.iload_n 2, 0, 0)] (18, [some (zr (some (11, 333))), none, some (zi v2), some (zi v3)], [zi v2], h) (by decide +kernel) rfl ?_
    refine zG_if (op := .ne) (off := 46) (tgt := 64) (by decide +kernel) rfl Iff.rfl (fun c12 => ?_) (fun c12 => ?_)
    · refine zG_run t_Mod [(.iconst 1, 0, 0), (.goto 4, 0, 0)] (69, [some (zr (some (11, 333))), none, some (zi v2), some (zi v3)], [zi 1], h) (by decide +kernel) rfl ?_
      exact zG_forget (L' := [some (zr (some (11, 333))), none, none, some (zi v3)]) (And.intro rfl (And.intro rfl trivial)) (k_Mod_isCaught_j69 hl)
    · refine zG_run t_Mod [(.aload_n 0, 0, 0), (.iload_n 3, 0, 0)] (23, [some (zr (some (11, 333))), none, some (zi v2), some (zi v3)], [zi v3, zr (some (11, 333))], h) (by decide +kernel) rfl ?_
      refine zG_callV (idx := 320) (R := (fun a => (some (zi a), h))) (as := [zi v3]) (rest := []) (n := 1) (fun a ha => c_Mod_isSeen hl ha) (by decide +kernel) ⟨ok_Mod_isSeen, by decide, by decide +kernel⟩ rfl w_470 w_471 w_472 (by decide) rfl rfl rfl (Nat.le_of_ble_eq_true rfl) fun x3 => ?_
      refine zG_if (op := .eq) (off := 42) (tgt := 68) (by decide +kernel) rfl Iff.rfl (fun c11 => ?_) (fun c11 => ?_)
      · refine zG_run t_Mod [(.iconst 0, 0, 0)] (69, [some (zr (some (11, 333))), none, some (zi v2), some (zi v3)], [zi 0], h) (by decide +kernel) rfl ?_
        exact zG_forget (L' := [some (zr (some (11, 333))), none, none, some (zi v3)]) (And.intro rfl (And.intro rfl trivial)) (k_Mod_isCaught_j69 hl)
      · refine zG_run t_Mod [(.aload_n 0, 0, 0), (.getfield 90, 11, 28), (.iload_n 3, 0, 0)] (34, [some (zr (some (11, 333))), none, some (zi v2), some (zi v3)], [zi v3, zr (some (77, 351))], h) (by decide +kernel) rfl ?_
        refine zG_ald (v := zi (h.1 351 v3.toNatClampNeg)) (n := 22) rfl (by decide +kernel) rfl rfl fun hb4 => ?_
        refine zG_run t_Mod [(.aload_n 0, 0, 0), (.getfield 93, 11, 29), (.iload_n 3, 0, 0)] (40, [some (zr (some (11, 333))), none, some (zi v2), some (zi v3)], [zi v3, zr (some (78, 352)), zi (h.1 351 v3.toNatClampNeg)], h) (by decide +kernel) rfl ?_
        refine zG_ald (v := zi (h.1 352 v3.toNatClampNeg)) (n := 22) rfl (by decide +kernel) rfl rfl fun hb5 => ?_
        refine zG_icmp (op := .eq) (off := 27) (tgt := 68) (by decide +kernel) rfl Iff.rfl (fun c10 => ?_) (fun c10 => ?_)
        · refine zG_run t_Mod [(.iconst 0, 0, 0)] (69, [some (zr (some (11, 333))), none, some (zi v2), some (zi v3)], [zi 0], h) (by decide +kernel) rfl ?_
          exact zG_forget (L' := [some (zr (some (11, 333))), none, none, some (zi v3)]) (And.intro rfl (And.intro rfl trivial)) (k_Mod_isCaught_j69 hl)
        · refine zG_run t_Mod [(.aload_n 0, 0, 0), (.getfield 90, 11, 28), (.iload_n 3, 0, 0)] (49, [some (zr (some (11, 333))), none, some (zi v2), some (zi v3)], [zi v3, zr (some (77, 351))], h) (by decide +kernel) rfl ?_
          refine zG_ald (v := zi (h.1 351 v3.toNatClampNeg)) (n := 22) rfl (by decide +kernel) rfl rfl fun hb6 => ?_
          refine zG_run t_Mod [(.iconst 2, 0, 0)] (51, [some (zr (some (11, 333))), none, some (zi v2), some (zi v3)], [zi 2, zi (h.1 351 v3.toNatClampNeg)], h) (by decide +kernel) rfl ?_
          refine zG_icmp (op := .ge) (off := 17) (tgt := 68) (by decide +kernel) rfl Iff.rfl (fun c9 => ?_) (fun c9 => ?_)
          · refine zG_run t_Mod [(.iconst 0, 0, 0)] (69, [some (zr (some (11, 333))), none, some (zi v2), some (zi v3)], [zi 0], h) (by decide +kernel) rfl ?_
            exact zG_forget (L' := [some (zr (some (11, 333))), none, none, some (zi v3)]) (And.intro rfl (And.intro rfl trivial)) (k_Mod_isCaught_j69 hl)
          · refine zG_run t_Mod [(.aload_n 0, 0, 0), (.getfield 93, 11, 29), (.iload_n 3, 0, 0)] (59, [some (zr (some (11, 333))), none, some (zi v2), some (zi v3)], [zi v3, zr (some (78, 352))], h) (by decide +kernel) rfl ?_
            refine zG_ald (v := zi (h.1 352 v3.toNatClampNeg)) (n := 22) rfl (by decide +kernel) rfl rfl fun hb7 => ?_
            refine zG_run t_Mod [(.iconst 2, 0, 0)] (61, [some (zr (some (11, 333))), none, some (zi v2), some (zi v3)], [zi 2, zi (h.1 352 v3.toNatClampNeg)], h) (by decide +kernel) rfl ?_
            refine zG_icmp (op := .ge) (off := 7) (tgt := 68) (by decide +kernel) rfl Iff.rfl (fun c8 => ?_) (fun c8 => ?_)
            · refine zG_run t_Mod [(.iconst 0, 0, 0)] (69, [some (zr (some (11, 333))), none, some (zi v2), some (zi v3)], [zi 0], h) (by decide +kernel) rfl ?_
              exact zG_forget (L' := [some (zr (some (11, 333))), none, none, some (zi v3)]) (And.intro rfl (And.intro rfl trivial)) (k_Mod_isCaught_j69 hl)
            · refine zG_run t_Mod [(.iconst 1, 0, 0), (.goto 4, 0, 0)] (69, [some (zr (some (11, 333))), none, some (zi v2), some (zi v3)], [zi 1], h) (by decide +kernel) rfl ?_
              exact zG_forget (L' := [some (zr (some (11, 333))), none, none, some (zi v3)]) (And.intro rfl (And.intro rfl trivial)) (k_Mod_isCaught_j69 hl)
set_option maxRecDepth 20000 in
theorem k_Mod_isCaught {l : Launch} {X : zX} (hl : l.stackTraces = false) {h : zH} {v1 : Int32} : zGl l m_Mod_isCaught X 0 0 (f_Mod_isCaught h v1) (0, [some (zr (some (11, 333))), some (zi v1), none, none], [], h) (fun x => .inr ((fun a => (.inl (some (zi a.1)), a.2) : Int32 × zH → zF) x)) := by
  unfold f_Mod_isCaught
  refine zG_run t_Mod [(.aload_n 0, 0, 0), (.iload_n 1, 0, 0)] (2, [some (zr (some (11, 333))), some (zi v1), none, none], [zi v1, zr (some (11, 333))], h) (by decide +kernel) rfl ?_
  refine zG_callV (idx := 317) (R := (fun a => (none, a))) (as := [zi v1]) (rest := []) (n := 1) (fun a ha => c_Mod_tellLines hl ha) (by decide +kernel) ⟨ok_Mod_tellLines, by decide, by decide +kernel⟩ rfl w_461 w_462 w_463 (by decide) rfl rfl rfl (Nat.le_of_ble_eq_true rfl) fun x1 => ?_
  refine zG_run t_Mod [(.iconst 0, 0, 0), (.istore_n 2, 0, 0), (.iconst 0, 0, 0), (.istore_n 3, 0, 0)] (9, [some (zr (some (11, 333))), some (zi v1), some (zi 0), some (zi 0)], [], x1) (by decide +kernel) rfl ?_
  refine zG_forget (L' := [some (zr (some (11, 333))), none, some (zi 0), some (zi 0)]) (And.intro rfl (And.intro rfl (And.intro rfl trivial))) ?_
  refine zG_bind (fun y : Int32 => (76, [none, none, some (zi y), none], [], x1)) (zG_iter (fun s : Int32 × Int32 => (9, [some (zr (some (11, 333))), none, some (zi s.1), some (zi s.2)], [], x1)) fun s => k_Mod_isCaught_b9 hl) (fun y15 => ?_)
  refine zG_run t_Mod [(.iload_n 2, 0, 0)] (77, [none, none, some (zi y15), none], [zi y15], x1) (by decide +kernel) rfl ?_
  refine zG_guard fun hb16 => ?_
  exact zG_ret (r := some (zi y15)) rfl (zrd_z rfl (by decide +kernel) hb16)
theorem c_Mod_isCaught {l : Launch} {X : zX} (hl : l.stackTraces = false) {h : zH} {v1 : Int32} {x : Int32 × zH} (hx : f_Mod_isCaught h v1 = some x) : zCt l (true, 2) 2 m_Mod_isCaught X 0 0 [zr (some (11, 333)), zi v1] h ((fun a => (.inl (some (zi a.1)), a.2) : Int32 × zH → zF) x) :=
  zG_ct (R := fun a => (.inl (some (zi a.1)), a.2)) (x := x) ok_Mod_isCaught hl (Nat.le_of_ble_eq_true rfl) hx (k_Mod_isCaught hl)
def m_Mod_layTests : zM := (({ cls := "ScanPackerModel", name := "layTests", desc := "()V" } : Jvm.MethodName), prog_13_method_42_code, 4, (Option.none : Option Jvm.ClassFile.FieldType), [], 4)
theorem ok_Mod_layTests : zMok m_Mod_layTests := ⟨by decide +kernel, zW_of 1393 (by decide +kernel) (by decide +kernel), zW_of 134 (by decide +kernel) (by decide +kernel), by decide, by decide +kernel, by decide +kernel⟩
set_option maxRecDepth 20000 in
theorem k_Mod_layTests_b2 {l : Launch} {X : zX} (hl : l.stackTraces = false) {h : zH} {v1 : Int32} : zGl l m_Mod_layTests X 0 0 (f_Mod_layTests_b2 h v1) (2, [some (zr (some (11, 333))), some (zi v1), none, none], [], h) (Sum.elim (fun s : Int32 × zH => .inl (2, [some (zr (some (11, 333))), some (zi s.1), none, none], [], s.2)) (fun y : zH => .inl (35, [some (zr (some (11, 333))), none, none, none], [], y))) := by
  unfold f_Mod_layTests_b2
  refine zG_run t_Mod [(.iload_n 1, 0, 0), (.bipush 44, 0, 0)] (5, [some (zr (some (11, 333))), some (zi v1), none, none], [zi 44, zi v1], h) (by decide +kernel) rfl ?_
  refine zG_icmp (op := .ge) (off := 30) (tgt := 35) (by decide +kernel) rfl Iff.rfl (fun c7 => ?_) (fun c7 => ?_)
  · exact zG_end (L' := [some (zr (some (11, 333))), none, none, none]) rfl (And.intro rfl trivial)
  · refine zG_run t_Mod [(.aload_n 0, 0, 0), (.getfield 100, 11, 31), (.iload_n 1, 0, 0), (.iconst 0, 0, 0)] (14, [some (zr (some (11, 333))), some (zi v1), none, none], [zi 0, zi v1, zr (some (80, 354))], h) (by decide +kernel) rfl ?_
    refine zG_guard fun hb2 => ?_
    refine zG_bind (fun y => (15, [some (zr (some (11, 333))), some (zi v1), none, none], [], y)) (zG_astc (h' := zsI h 354 v1.toNatClampNeg 0) rfl (by decide +kernel) hb2 rfl (zG_end (L' := [some (zr (some (11, 333))), some (zi v1), none, none]) rfl (And.intro rfl (And.intro rfl trivial)))) fun h1 => ?_
    refine zG_run t_Mod [(.aload_n 0, 0, 0), (.getfield 106, 11, 33), (.iload_n 1, 0, 0), (.iconst (-1), 0, 0)] (21, [some (zr (some (11, 333))), some (zi v1), none, none], [zi (-1), zi v1, zr (some (82, 356))], h1) (by decide +kernel) rfl ?_
    refine zG_guard fun hb4 => ?_
    refine zG_bind (fun y => (22, [some (zr (some (11, 333))), some (zi v1), none, none], [], y)) (zG_astc (h' := zsI h1 356 v1.toNatClampNeg (-1)) rfl (by decide +kernel) hb4 rfl (zG_end (L' := [some (zr (some (11, 333))), some (zi v1), none, none]) rfl (And.intro rfl (And.intro rfl trivial)))) fun h3 => ?_
    refine zG_run t_Mod [(.aload_n 0, 0, 0), (.getfield 109, 11, 34), (.iload_n 1, 0, 0), (.iconst 1, 0, 0)] (28, [some (zr (some (11, 333))), some (zi v1), none, none], [zi 1, zi v1, zr (some (83, 357))], h3) (by decide +kernel) rfl ?_
    refine zG_guard fun hb6 => ?_
    refine zG_bind (fun y => (29, [some (zr (some (11, 333))), some (zi v1), none, none], [], y)) (zG_astc (h' := zsI h3 357 v1.toNatClampNeg 1) rfl (by decide +kernel) hb6 rfl (zG_end (L' := [some (zr (some (11, 333))), some (zi v1), none, none]) rfl (And.intro rfl (And.intro rfl trivial)))) fun h5 => ?_
    refine zG_run t_Mod [(.iinc 1 1, 0, 0), (.goto (-30), 0, 0)] (2, [some (zr (some (11, 333))), some (zi (v1 + 1)), none, none], [], h5) (by decide +kernel) rfl ?_
    exact zG_end (L' := [some (zr (some (11, 333))), some (zi (v1 + 1)), none, none]) rfl (And.intro rfl (And.intro rfl trivial))
set_option maxRecDepth 20000 in
theorem k_Mod_layTests_j98 {l : Launch} {X : zX} (hl : l.stackTraces = false) {h : zH} {v1 : Int32} {v2 : Int32} {t0 : Int32} {t1 : Int32} {t2 : Int32} : zGl l m_Mod_layTests X 0 0 (f_Mod_layTests_j98 h v1 v2 t0 t1 t2) (98, [some (zr (some (11, 333))), some (zi v1), some (zi v2), none], [zi t0, zi t1, zi t2, zr (some (80, 354))], h) (Sum.elim (fun s : Int32 × zH => .inl (56, [some (zr (some (11, 333))), some (zi v1), some (zi s.1), none], [], s.2)) (fun y : zH => .inl (127, [some (zr (some (11, 333))), some (zi v1), none, none], [], y))) := by
  unfold f_Mod_layTests_j98
  refine zG_run t_Mod [(.iadd, 0, 0)] (99, [some (zr (some (11, 333))), some (zi v1), some (zi v2), none], [zi (t1 + t0), zi t2, zr (some (80, 354))], h) (by decide +kernel) rfl ?_
  refine zG_guard fun hb19 => ?_
  refine zG_bind (fun y => (100, [some (zr (some (11, 333))), some (zi v1), some (zi v2), none], [], y)) (zG_astc (h' := zsI h 354 t2.toNatClampNeg (t1 + t0)) rfl (by decide +kernel) hb19 rfl (zG_end (L' := [some (zr (some (11, 333))), some (zi v1), some (zi v2), none]) rfl (And.intro rfl (And.intro rfl (And.intro rfl trivial))))) fun h18 => ?_
  refine zG_run t_Mod [(.aload_n 0, 0, 0), (.getfield 93, 11, 29), (.iload_n 2, 0, 0), (.iconst 2, 0, 0)] (106, [some (zr (some (11, 333))), some (zi v1), some (zi v2), none], [zi 2, zi v2, zr (some (78, 352))], h18) (by decide +kernel) rfl ?_
  refine zG_idivc (by decide +kernel) (by decide) ?_
  refine zG_ald (v := zi (h18.1 352 (v2 / 2).toNatClampNeg)) (n := 22) rfl (by decide +kernel) rfl rfl fun hb20 => ?_
  refine zG_run t_Mod [(.iload_n 2, 0, 0), (.iconst 2, 0, 0)] (110, [some (zr (some (11, 333))), some (zi v1), some (zi v2), none], [zi 2, zi v2, zi (h18.1 352 (v2 / 2).toNatClampNeg)], h18) (by decide +kernel) rfl ?_
  refine zG_iremc (by decide +kernel) (by decide) ?_
  refine zG_icmp (op := .eq) (off := 10) (tgt := 121) (by decide +kernel) rfl Iff.rfl (fun c23 => ?_) (fun c23 => ?_)
  · refine zG_run t_Mod [(.iinc 2 1, 0, 0), (.goto (-68), 0, 0)] (56, [some (zr (some (11, 333))), some (zi v1), some (zi (v2 + 1)), none], [], h18) (by decide +kernel) rfl ?_
    exact zG_end (L' := [some (zr (some (11, 333))), some (zi v1), some (zi (v2 + 1)), none]) rfl (And.intro rfl (And.intro rfl (And.intro rfl trivial)))
  · refine zG_run t_Mod [(.aload_n 0, 0, 0), (.getfield 109, 11, 34), (.iload_n 2, 0, 0), (.iconst 2, 0, 0)] (120, [some (zr (some (11, 333))), some (zi v1), some (zi v2), none], [zi 2, zi v2, zr (some (83, 357))], h18) (by decide +kernel) rfl ?_
    refine zG_guard fun hb22 => ?_
    refine zG_bind (fun y => (121, [some (zr (some (11, 333))), some (zi v1), some (zi v2), none], [], y)) (zG_astc (h' := zsI h18 357 v2.toNatClampNeg 2) rfl (by decide +kernel) hb22 rfl (zG_end (L' := [some (zr (some (11, 333))), some (zi v1), some (zi v2), none]) rfl (And.intro rfl (And.intro rfl (And.intro rfl trivial))))) fun h21 => ?_
    refine zG_run t_Mod [(.iinc 2 1, 0, 0), (.goto (-68), 0, 0)] (56, [some (zr (some (11, 333))), some (zi v1), some (zi (v2 + 1)), none], [], h21) (by decide +kernel) rfl ?_
    exact zG_end (L' := [some (zr (some (11, 333))), some (zi v1), some (zi (v2 + 1)), none]) rfl (And.intro rfl (And.intro rfl (And.intro rfl trivial)))
set_option maxRecDepth 20000 in
theorem k_Mod_layTests_b56 {l : Launch} {X : zX} (hl : l.stackTraces = false) {h : zH} {v1 : Int32} {v2 : Int32} : zGl l m_Mod_layTests X 0 0 (f_Mod_layTests_b56 h v1 v2) (56, [some (zr (some (11, 333))), some (zi v1), some (zi v2), none], [], h) (Sum.elim (fun s : Int32 × zH => .inl (56, [some (zr (some (11, 333))), some (zi v1), some (zi s.1), none], [], s.2)) (fun y : zH => .inl (127, [some (zr (some (11, 333))), some (zi v1), none, none], [], y))) := by
  unfold f_Mod_layTests_b56
  refine zG_run t_Mod [(.iload_n 2, 0, 0), (.aload_n 0, 0, 0)] (58, [some (zr (some (11, 333))), some (zi v1), some (zi v2), none], [zr (some (11, 333)), zi v2], h) (by decide +kernel) rfl ?_
  refine zG_callV (idx := 332) (R := (fun a => (some (zi a), h))) (as := []) (rest := [zi v2]) (n := 0) (fun a ha => c_Mod_faults hl ha) (by decide +kernel) ⟨ok_Mod_faults, by decide, by decide +kernel⟩ rfl w_467 w_468 w_469 (by decide) rfl rfl rfl (Nat.le_of_ble_eq_true rfl) fun x13 => ?_
  refine zG_icmp (op := .ge) (off := 66) (tgt := 127) (by decide +kernel) rfl Iff.rfl (fun c25 => ?_) (fun c25 => ?_)
  · exact zG_end (L' := [some (zr (some (11, 333))), some (zi v1), none, none]) rfl (And.intro rfl (And.intro rfl trivial))
  · refine zG_run t_Mod [(.aload_n 0, 0, 0), (.iload_n 2, 0, 0)] (66, [some (zr (some (11, 333))), some (zi v1), some (zi v2), none], [zi v2, zr (some (11, 333))], h) (by decide +kernel) rfl ?_
    refine zG_callV (idx := 335) (R := (fun a => (some (zi a.1), a.2))) (as := [zi v2]) (rest := []) (n := 1) (fun a ha => c_Mod_isCaught hl ha) (by decide +kernel) ⟨ok_Mod_isCaught, by decide, by decide +kernel⟩ rfl w_473 w_474 w_475 (by decide) rfl rfl rfl (Nat.le_of_ble_eq_true rfl) fun x14 => ?_
    refine zG_run t_Mod [(.istore_n 3, 0, 0), (.aload_n 0, 0, 0), (.getfield 96, 11, 30), (.bipush 64, 0, 0), (.iload_n 2, 0, 0), (.imul, 0, 0), (.iload_n 1, 0, 0), (.iadd, 0, 0), (.iload_n 3, 0, 0)] (81, [some (zr (some (11, 333))), some (zi v1), some (zi v2), some (zi x14.1)], [zi x14.1, zi ((64 * v2) + v1), zr (some (79, 353))], x14.2) (by decide +kernel) rfl ?_
    refine zG_guard fun hb16 => ?_
    refine zG_bind (fun y => (82, [some (zr (some (11, 333))), some (zi v1), some (zi v2), some (zi x14.1)], [], y)) (zG_astc (h' := zsI x14.2 353 ((64 * v2) + v1).toNatClampNeg (x14.1 &&& 1)) rfl (by decide +kernel) hb16 rfl (zG_end (L' := [some (zr (some (11, 333))), some (zi v1), some (zi v2), some (zi x14.1)]) rfl (And.intro rfl (And.intro rfl (And.intro rfl (And.intro rfl trivial)))))) fun h15 => ?_
    refine zG_run t_Mod [(.aload_n 0, 0, 0), (.getfield 100, 11, 31), (.iload_n 2, 0, 0), (.dup2, 0, 0)] (88, [some (zr (some (11, 333))), some (zi v1), some (zi v2), some (zi x14.1)], [zi v2, zr (some (80, 354)), zi v2, zr (some (80, 354))], h15) (by decide +kernel) rfl ?_
    refine zG_ald (v := zi (h15.1 354 v2.toNatClampNeg)) (n := 44) rfl (by decide +kernel) rfl rfl fun hb17 => ?_
    refine zG_run t_Mod [(.iload_n 3, 0, 0)] (90, [some (zr (some (11, 333))), some (zi v1), some (zi v2), some (zi x14.1)], [zi x14.1, zi (h15.1 354 v2.toNatClampNeg), zi v2, zr (some (80, 354))], h15) (by decide +kernel) rfl ?_
    refine zG_if (op := .eq) (off := 7) (tgt := 97) (by decide +kernel) rfl Iff.rfl (fun c24 => ?_) (fun c24 => ?_)
    · refine zG_run t_Mod [(.iconst 0, 0, 0)] (98, [some (zr (some (11, 333))), some (zi v1), some (zi v2), some (zi x14.1)], [zi 0, zi (h15.1 354 v2.toNatClampNeg), zi v2, zr (some (80, 354))], h15) (by decide +kernel) rfl ?_
      exact zG_forget (L' := [some (zr (some (11, 333))), some (zi v1), some (zi v2), none]) (And.intro rfl (And.intro rfl (And.intro rfl trivial))) (k_Mod_layTests_j98 hl)
    · refine zG_run t_Mod [(.iconst 1, 0, 0), (.goto 4, 0, 0)] (98, [some (zr (some (11, 333))), some (zi v1), some (zi v2), some (zi x14.1)], [zi 1, zi (h15.1 354 v2.toNatClampNeg), zi v2, zr (some (80, 354))], h15) (by decide +kernel) rfl ?_
      exact zG_forget (L' := [some (zr (some (11, 333))), some (zi v1), some (zi v2), none]) (And.intro rfl (And.intro rfl (And.intro rfl trivial))) (k_Mod_layTests_j98 hl)
set_option maxRecDepth 20000 in
theorem k_Mod_layTests_b37 {l : Launch} {X : zX} (hl : l.stackTraces = false) {h : zH} {v1 : Int32} : zGl l m_Mod_layTests X 0 0 (f_Mod_layTests_b37 h v1) (37, [some (zr (some (11, 333))), some (zi v1), none, none], [], h) (Sum.elim (fun s : Int32 × zH => .inl (37, [some (zr (some (11, 333))), some (zi s.1), none, none], [], s.2)) (fun y : zH => .inl (133, [some (zr (some (11, 333))), none, none, none], [], y))) := by
  unfold f_Mod_layTests_b37
  refine zG_run t_Mod [(.iload_n 1, 0, 0), (.aload_n 0, 0, 0)] (39, [some (zr (some (11, 333))), some (zi v1), none, none], [zr (some (11, 333)), zi v1], h) (by decide +kernel) rfl ?_
  refine zG_callV (idx := 323) (R := (fun a => (some (zi a), h))) (as := []) (rest := [zi v1]) (n := 0) (fun a ha => c_Mod_rows hl ha) (by decide +kernel) ⟨ok_Mod_rows, by decide, by decide +kernel⟩ rfl w_449 w_450 w_451 (by decide) rfl rfl rfl (Nat.le_of_ble_eq_true rfl) fun x10 => ?_
  refine zG_icmp (op := .ge) (off := 91) (tgt := 133) (by decide +kernel) rfl Iff.rfl (fun c28 => ?_) (fun c28 => ?_)
  · exact zG_end (L' := [some (zr (some (11, 333))), none, none, none]) rfl (And.intro rfl trivial)
  · refine zG_run t_Mod [(.aload_n 0, 0, 0), (.iload_n 1, 0, 0)] (47, [some (zr (some (11, 333))), some (zi v1), none, none], [zi v1, zr (some (11, 333))], h) (by decide +kernel) rfl ?_
    refine zG_callV (idx := 326) (R := (fun a => (none, a))) (as := [zi v1]) (rest := []) (n := 1) (fun a ha => c_Mod_putRow hl ha) (by decide +kernel) ⟨ok_Mod_putRow, by decide, by decide +kernel⟩ rfl w_452 w_453 w_454 (by decide) rfl rfl rfl (Nat.le_of_ble_eq_true rfl) fun x11 => ?_
    refine zG_run t_Mod [(.aload_n 0, 0, 0)] (51, [some (zr (some (11, 333))), some (zi v1), none, none], [zr (some (11, 333))], x11) (by decide +kernel) rfl ?_
    refine zG_callV (idx := 329) (R := (fun a => (none, a))) (as := []) (rest := []) (n := 0) (fun a ha => c_Mod_tellPlain hl ha) (by decide +kernel) ⟨ok_Mod_tellPlain, by decide, by decide +kernel⟩ rfl w_464 w_465 w_466 (by decide) rfl rfl rfl (Nat.le_of_ble_eq_true rfl) fun x12 => ?_
    refine zG_run t_Mod [(.iconst 0, 0, 0), (.istore_n 2, 0, 0)] (56, [some (zr (some (11, 333))), some (zi v1), some (zi 0), none], [], x12) (by decide +kernel) rfl ?_
    refine zG_forget (L' := [some (zr (some (11, 333))), some (zi v1), some (zi 0), none]) (And.intro rfl (And.intro rfl (And.intro rfl trivial))) ?_
    refine zG_bind (fun y : zH => (127, [some (zr (some (11, 333))), some (zi v1), none, none], [], y)) (zG_iter (fun s : Int32 × zH => (56, [some (zr (some (11, 333))), some (zi v1), some (zi s.1), none], [], s.2)) fun s => k_Mod_layTests_b56 hl) (fun y27 => ?_)
    refine zG_run t_Mod [(.iinc 1 1, 0, 0), (.goto (-93), 0, 0)] (37, [some (zr (some (11, 333))), some (zi (v1 + 1)), none, none], [], y27) (by decide +kernel) rfl ?_
    exact zG_end (L' := [some (zr (some (11, 333))), some (zi (v1 + 1)), none, none]) rfl (And.intro rfl (And.intro rfl trivial))
set_option maxRecDepth 20000 in
theorem k_Mod_layTests_j167 {l : Launch} {X : zX} (hl : l.stackTraces = false) {h : zH} {v1 : Int32} {t0 : Int32} {t1 : Int32} : zGl l m_Mod_layTests X 0 0 (f_Mod_layTests_j167 h v1 t0 t1) (167, [some (zr (some (11, 333))), some (zi v1), none, none], [zi t0, zi t1, zr (some (83, 357))], h) (Sum.elim (fun s : Int32 × zH => .inl (135, [some (zr (some (11, 333))), some (zi s.1), none, none], [], s.2)) (fun y : zH => .inl (174, [none, none, none, none], [], y))) := by
  unfold f_Mod_layTests_j167
  refine zG_guard fun hb35 => ?_
  refine zG_bind (fun y => (168, [some (zr (some (11, 333))), some (zi v1), none, none], [], y)) (zG_astc (h' := zsI h 357 t1.toNatClampNeg t0) rfl (by decide +kernel) hb35 rfl (zG_end (L' := [some (zr (some (11, 333))), some (zi v1), none, none]) rfl (And.intro rfl (And.intro rfl trivial)))) fun h34 => ?_
  refine zG_run t_Mod [(.iinc 1 1, 0, 0), (.goto (-36), 0, 0)] (135, [some (zr (some (11, 333))), some (zi (v1 + 1)), none, none], [], h34) (by decide +kernel) rfl ?_
  exact zG_end (L' := [some (zr (some (11, 333))), some (zi (v1 + 1)), none, none]) rfl (And.intro rfl (And.intro rfl trivial))
set_option maxRecDepth 20000 in
theorem k_Mod_layTests_b135 {l : Launch} {X : zX} (hl : l.stackTraces = false) {h : zH} {v1 : Int32} : zGl l m_Mod_layTests X 0 0 (f_Mod_layTests_b135 h v1) (135, [some (zr (some (11, 333))), some (zi v1), none, none], [], h) (Sum.elim (fun s : Int32 × zH => .inl (135, [some (zr (some (11, 333))), some (zi s.1), none, none], [], s.2)) (fun y : zH => .inl (174, [none, none, none, none], [], y))) := by
  unfold f_Mod_layTests_b135
  refine zG_run t_Mod [(.iload_n 1, 0, 0), (.aload_n 0, 0, 0)] (137, [some (zr (some (11, 333))), some (zi v1), none, none], [zr (some (11, 333)), zi v1], h) (by decide +kernel) rfl ?_
  refine zG_callV (idx := 332) (R := (fun a => (some (zi a), h))) (as := []) (rest := [zi v1]) (n := 0) (fun a ha => c_Mod_faults hl ha) (by decide +kernel) ⟨ok_Mod_faults, by decide, by decide +kernel⟩ rfl w_467 w_468 w_469 (by decide) rfl rfl rfl (Nat.le_of_ble_eq_true rfl) fun x31 => ?_
  refine zG_icmp (op := .ge) (off := 34) (tgt := 174) (by decide +kernel) rfl Iff.rfl (fun c37 => ?_) (fun c37 => ?_)
  · exact zG_end (L' := [none, none, none, none]) rfl (trivial)
  · refine zG_run t_Mod [(.aload_n 0, 0, 0), (.getfield 109, 11, 34), (.iload_n 1, 0, 0), (.aload_n 0, 0, 0), (.getfield 100, 11, 31), (.iload_n 1, 0, 0)] (153, [some (zr (some (11, 333))), some (zi v1), none, none], [zi v1, zr (some (80, 354)), zi v1, zr (some (83, 357))], h) (by decide +kernel) rfl ?_
    refine zG_ald (v := zi (h.1 354 v1.toNatClampNeg)) (n := 44) rfl (by decide +kernel) rfl rfl fun hb32 => ?_
    refine zG_if (op := .le) (off := 7) (tgt := 161) (by decide +kernel) rfl Iff.rfl (fun c36 => ?_) (fun c36 => ?_)
    · refine zG_run t_Mod [(.aload_n 0, 0, 0), (.getfield 109, 11, 34), (.iload_n 1, 0, 0)] (166, [some (zr (some (11, 333))), some (zi v1), none, none], [zi v1, zr (some (83, 357)), zi v1, zr (some (83, 357))], h) (by decide +kernel) rfl ?_
      refine zG_ald (v := zi (h.1 357 v1.toNatClampNeg)) (n := 44) rfl (by decide +kernel) rfl rfl fun hb33 => ?_
      exact zG_forget (L' := [some (zr (some (11, 333))), some (zi v1), none, none]) (And.intro rfl (And.intro rfl trivial)) (k_Mod_layTests_j167 hl)
    · refine zG_run t_Mod [(.iconst 0, 0, 0), (.goto 9, 0, 0)] (167, [some (zr (some (11, 333))), some (zi v1), none, none], [zi 0, zi v1, zr (some (83, 357))], h) (by decide +kernel) rfl ?_
      exact zG_forget (L' := [some (zr (some (11, 333))), some (zi v1), none, none]) (And.intro rfl (And.intro rfl trivial)) (k_Mod_layTests_j167 hl)
set_option maxRecDepth 20000 in
theorem k_Mod_layTests {l : Launch} {X : zX} (hl : l.stackTraces = false) {h : zH} : zGl l m_Mod_layTests X 0 0 (f_Mod_layTests h) (0, [some (zr (some (11, 333))), none, none, none], [], h) (fun x => .inr ((fun a => (.inl none, a) : zH → zF) x)) := by
  unfold f_Mod_layTests
  refine zG_run t_Mod [(.iconst 0, 0, 0), (.istore_n 1, 0, 0)] (2, [some (zr (some (11, 333))), some (zi 0), none, none], [], h) (by decide +kernel) rfl ?_
  refine zG_forget (L' := [some (zr (some (11, 333))), some (zi 0), none, none]) (And.intro rfl (And.intro rfl trivial)) ?_
  refine zG_bind (fun y : zH => (35, [some (zr (some (11, 333))), none, none, none], [], y)) (zG_iter (fun s : Int32 × zH => (2, [some (zr (some (11, 333))), some (zi s.1), none, none], [], s.2)) fun s => k_Mod_layTests_b2 hl) (fun y9 => ?_)
  refine zG_run t_Mod [(.iconst 0, 0, 0), (.istore_n 1, 0, 0)] (37, [some (zr (some (11, 333))), some (zi 0), none, none], [], y9) (by decide +kernel) rfl ?_
  refine zG_forget (L' := [some (zr (some (11, 333))), some (zi 0), none, none]) (And.intro rfl (And.intro rfl trivial)) ?_
  refine zG_bind (fun y : zH => (133, [some (zr (some (11, 333))), none, none, none], [], y)) (zG_iter (fun s : Int32 × zH => (37, [some (zr (some (11, 333))), some (zi s.1), none, none], [], s.2)) fun s => k_Mod_layTests_b37 hl) (fun y30 => ?_)
  refine zG_run t_Mod [(.iconst 0, 0, 0), (.istore_n 1, 0, 0)] (135, [some (zr (some (11, 333))), some (zi 0), none, none], [], y30) (by decide +kernel) rfl ?_
  refine zG_forget (L' := [some (zr (some (11, 333))), some (zi 0), none, none]) (And.intro rfl (And.intro rfl trivial)) ?_
  refine zG_bind (fun y : zH => (174, [none, none, none, none], [], y)) (zG_iter (fun s : Int32 × zH => (135, [some (zr (some (11, 333))), some (zi s.1), none, none], [], s.2)) fun s => k_Mod_layTests_b135 hl) (fun y39 => ?_)
  exact zG_ret (r := none) rfl (zrd_v rfl (by decide +kernel))
theorem c_Mod_layTests {l : Launch} {X : zX} (hl : l.stackTraces = false) {h : zH} {x : zH} (hx : f_Mod_layTests h = some x) : zCt l (true, 2) 2 m_Mod_layTests X 0 0 [zr (some (11, 333))] h ((fun a => (.inl none, a) : zH → zF) x) :=
  zG_ct (R := fun a => (.inl none, a)) (x := x) ok_Mod_layTests hl (Nat.le_of_ble_eq_true rfl) hx (k_Mod_layTests hl)
def m_Mod_powerOf : zM := (({ cls := "ScanPackerModel", name := "powerOf", desc := "(II)I" } : Jvm.MethodName), prog_13_method_37_code, 4, (Option.some Jvm.ClassFile.FieldType.int), [], 1)
theorem ok_Mod_powerOf : zMok m_Mod_powerOf := ⟨by decide +kernel, zW_of 1436 (by decide +kernel) (by decide +kernel), zW_of 134 (by decide +kernel) (by decide +kernel), by decide, by decide +kernel, by decide +kernel⟩
set_option maxRecDepth 20000 in
theorem k_Mod_powerOf_b4 {l : Launch} {X : zX} (hl : l.stackTraces = false) {h : zH} {v0 : Int32} {v1 : Int32} {v2 : Int32} {v3 : Int32} : zGl l m_Mod_powerOf X 0 0 (f_Mod_powerOf_b4 v0 v1 v2 v3) (4, [some (zi v0), some (zi v1), some (zi v2), some (zi v3)], [], h) (Sum.elim (fun s : Int32 × Int32 => .inl (4, [some (zi v0), some (zi v1), some (zi s.1), some (zi s.2)], [], h)) (fun y : Int32 => .inl (19, [none, none, some (zi y), none], [], h))) := by
  unfold f_Mod_powerOf_b4
  refine zG_run t_Mod [(.iload_n 3, 0, 0), (.iload_n 1, 0, 0)] (6, [some (zi v0), some (zi v1), some (zi v2), some (zi v3)], [zi v1, zi v3], h) (by decide +kernel) rfl ?_
  refine zG_icmp (op := .ge) (off := 13) (tgt := 19) (by decide +kernel) rfl Iff.rfl (fun c1 => ?_) (fun c1 => ?_)
  · exact zG_end (L' := [none, none, some (zi v2), none]) rfl (And.intro rfl trivial)
  · refine zG_run t_Mod [(.iload_n 2, 0, 0), (.iload_n 0, 0, 0), (.imul, 0, 0), (.istore_n 2, 0, 0), (.iinc 3 1, 0, 0), (.goto (-12), 0, 0)] (4, [some (zi v0), some (zi v1), some (zi (v2 * v0)), some (zi (v3 + 1))], [], h) (by decide +kernel) rfl ?_
    exact zG_end (L' := [some (zi v0), some (zi v1), some (zi (v2 * v0)), some (zi (v3 + 1))]) rfl (And.intro rfl (And.intro rfl (And.intro rfl (And.intro rfl trivial))))
set_option maxRecDepth 20000 in
theorem k_Mod_powerOf {l : Launch} {X : zX} (hl : l.stackTraces = false) {h : zH} {v0 : Int32} {v1 : Int32} : zGl l m_Mod_powerOf X 0 0 (f_Mod_powerOf v0 v1) (0, [some (zi v0), some (zi v1), none, none], [], h) (fun x => .inr ((fun a => (.inl (some (zi a)), h) : Int32 → zF) x)) := by
  unfold f_Mod_powerOf
  refine zG_run t_Mod [(.iconst 1, 0, 0), (.istore_n 2, 0, 0), (.iconst 0, 0, 0), (.istore_n 3, 0, 0)] (4, [some (zi v0), some (zi v1), some (zi 1), some (zi 0)], [], h) (by decide +kernel) rfl ?_
  refine zG_forget (L' := [some (zi v0), some (zi v1), some (zi 1), some (zi 0)]) (And.intro rfl (And.intro rfl (And.intro rfl (And.intro rfl trivial)))) ?_
  refine zG_bind (fun y : Int32 => (19, [none, none, some (zi y), none], [], h)) (zG_iter (fun s : Int32 × Int32 => (4, [some (zi v0), some (zi v1), some (zi s.1), some (zi s.2)], [], h)) fun s => k_Mod_powerOf_b4 hl) (fun y3 => ?_)
  refine zG_run t_Mod [(.iload_n 2, 0, 0)] (20, [none, none, some (zi y3), none], [zi y3], h) (by decide +kernel) rfl ?_
  exact zG_ret (r := some (zi y3)) rfl (zrd_i rfl (by decide +kernel))
theorem c_Mod_powerOf {l : Launch} {X : zX} (hl : l.stackTraces = false) {h : zH} {v0 : Int32} {v1 : Int32} {x : Int32} (hx : f_Mod_powerOf v0 v1 = some x) : zCt l (true, 2) 2 m_Mod_powerOf X 0 0 [zi v0, zi v1] h ((fun a => (.inl (some (zi a)), h) : Int32 → zF) x) :=
  zG_ct (R := fun a => (.inl (some (zi a)), h)) (x := x) ok_Mod_powerOf hl (Nat.le_of_ble_eq_true rfl) hx (k_Mod_powerOf hl)
def m_Mod_layCubes : zM := (({ cls := "ScanPackerModel", name := "layCubes", desc := "()V" } : Jvm.MethodName), prog_13_method_43_code, 7, (Option.none : Option Jvm.ClassFile.FieldType), [], 4)
theorem ok_Mod_layCubes : zMok m_Mod_layCubes := ⟨by decide +kernel, zW_of 1433 (by decide +kernel) (by decide +kernel), zW_of 134 (by decide +kernel) (by decide +kernel), by decide, by decide +kernel, by decide +kernel⟩
set_option maxRecDepth 20000 in
theorem k_Mod_layCubes_j66 {l : Launch} {X : zX} (hl : l.stackTraces = false) {h : zH} {v1 : Int32} {v2 : Int32} {v3 : Int32} {v5 : Int32} {t0 : Int32} {t1 : Int32} : zGl l m_Mod_layCubes X 0 0 (f_Mod_layCubes_j66 h v1 v2 v3 v5 t0 t1) (66, [some (zr (some (11, 333))), some (zi v1), some (zi v2), some (zi v3), none, some (zi v5), none], [zi t0, zi t1], h) (Sum.elim (fun s : Int32 × Int32 × Int32 × zH => .inl (33, [some (zr (some (11, 333))), some (zi v1), some (zi v2), some (zi s.1), some (zi s.2.1), some (zi s.2.2.1), none], [], s.2.2.2)) (fun y : Int32 × zH => .inl (79, [some (zr (some (11, 333))), some (zi v1), some (zi v2), none, some (zi y.1), none, none], [], y.2))) := by
  unfold f_Mod_layCubes_j66
  refine zG_run t_Mod [(.iadd, 0, 0), (.istore 4, 0, 0), (.iload_n 3, 0, 0), (.iconst 3, 0, 0)] (71, [some (zr (some (11, 333))), some (zi v1), some (zi v2), some (zi v3), some (zi (t1 + t0)), some (zi v5), none], [zi 3, zi v3], h) (by decide +kernel) rfl ?_
  refine zG_idivc (by decide +kernel) (by decide) ?_
  refine zG_run t_Mod [(.istore_n 3, 0, 0), (.iinc 5 (-1), 0, 0), (.goto (-43), 0, 0)] (33, [some (zr (some (11, 333))), some (zi v1), some (zi v2), some (zi (v3 / 3)), some (zi (t1 + t0)), some (zi (v5 + (-1))), none], [], h) (by decide +kernel) rfl ?_
  exact zG_end (L' := [some (zr (some (11, 333))), some (zi v1), some (zi v2), some (zi (v3 / 3)), some (zi (t1 + t0)), some (zi (v5 + (-1))), none]) rfl (And.intro rfl (And.intro rfl (And.intro rfl (And.intro rfl (And.intro rfl (And.intro rfl trivial))))))
set_option maxRecDepth 20000 in
theorem k_Mod_layCubes_b33 {l : Launch} {X : zX} (hl : l.stackTraces = false) {h : zH} {v1 : Int32} {v2 : Int32} {v3 : Int32} {v4 : Int32} {v5 : Int32} : zGl l m_Mod_layCubes X 0 0 (f_Mod_layCubes_b33 h v1 v2 v3 v4 v5) (33, [some (zr (some (11, 333))), some (zi v1), some (zi v2), some (zi v3), some (zi v4), some (zi v5), none], [], h) (Sum.elim (fun s : Int32 × Int32 × Int32 × zH => .inl (33, [some (zr (some (11, 333))), some (zi v1), some (zi v2), some (zi s.1), some (zi s.2.1), some (zi s.2.2.1), none], [], s.2.2.2)) (fun y : Int32 × zH => .inl (79, [some (zr (some (11, 333))), some (zi v1), some (zi v2), none, some (zi y.1), none, none], [], y.2))) := by
  unfold f_Mod_layCubes_b33
  refine zG_run t_Mod [(.iload 5, 0, 0)] (35, [some (zr (some (11, 333))), some (zi v1), some (zi v2), some (zi v3), some (zi v4), some (zi v5), none], [zi v5], h) (by decide +kernel) rfl ?_
  refine zG_if (op := .lt) (off := 44) (tgt := 79) (by decide +kernel) rfl Iff.rfl (fun c6 => ?_) (fun c6 => ?_)
  · exact zG_end (L' := [some (zr (some (11, 333))), some (zi v1), some (zi v2), none, some (zi v4), none, none]) rfl (And.intro rfl (And.intro rfl (And.intro rfl (And.intro rfl trivial))))
  · refine zG_run t_Mod [(.aload_n 0, 0, 0), (.getfield 87, 11, 27), (.iload 5, 0, 0), (.iload_n 3, 0, 0), (.iconst 3, 0, 0)] (46, [some (zr (some (11, 333))), some (zi v1), some (zi v2), some (zi v3), some (zi v4), some (zi v5), none], [zi 3, zi v3, zi v5, zr (some (76, 350))], h) (by decide +kernel) rfl ?_
    refine zG_iremc (by decide +kernel) (by decide) ?_
    refine zG_guard fun hb3 => ?_
    refine zG_bind (fun y => (48, [some (zr (some (11, 333))), some (zi v1), some (zi v2), some (zi v3), some (zi v4), some (zi v5), none], [], y)) (zG_astc (h' := zsI h 350 v5.toNatClampNeg (zrem v3 3)) rfl (by decide +kernel) hb3 rfl (zG_end (L' := [some (zr (some (11, 333))), some (zi v1), some (zi v2), some (zi v3), some (zi v4), some (zi v5), none]) rfl (And.intro rfl (And.intro rfl (And.intro rfl (And.intro rfl (And.intro rfl (And.intro rfl trivial)))))))) fun h2 => ?_
    refine zG_run t_Mod [(.iload 4, 0, 0), (.aload_n 0, 0, 0), (.getfield 87, 11, 27), (.iload 5, 0, 0)] (56, [some (zr (some (11, 333))), some (zi v1), some (zi v2), some (zi v3), some (zi v4), some (zi v5), none], [zi v5, zr (some (76, 350)), zi v4], h2) (by decide +kernel) rfl ?_
    refine zG_ald (v := zi (h2.1 350 v5.toNatClampNeg)) (n := 6) rfl (by decide +kernel) rfl rfl fun hb4 => ?_
    refine zG_run t_Mod [(.iconst 2, 0, 0)] (58, [some (zr (some (11, 333))), some (zi v1), some (zi v2), some (zi v3), some (zi v4), some (zi v5), none], [zi 2, zi (h2.1 350 v5.toNatClampNeg), zi v4], h2) (by decide +kernel) rfl ?_
    refine zG_icmp (op := .ge) (off := 7) (tgt := 65) (by decide +kernel) rfl Iff.rfl (fun c5 => ?_) (fun c5 => ?_)
    · refine zG_run t_Mod [(.iconst 0, 0, 0)] (66, [some (zr (some (11, 333))), some (zi v1), some (zi v2), some (zi v3), some (zi v4), some (zi v5), none], [zi 0, zi v4], h2) (by decide +kernel) rfl ?_
      exact zG_forget (L' := [some (zr (some (11, 333))), some (zi v1), some (zi v2), some (zi v3), none, some (zi v5), none]) (And.intro rfl (And.intro rfl (And.intro rfl (And.intro rfl (And.intro rfl trivial))))) (k_Mod_layCubes_j66 hl)
    · refine zG_run t_Mod [(.iconst 1, 0, 0), (.goto 4, 0, 0)] (66, [some (zr (some (11, 333))), some (zi v1), some (zi v2), some (zi v3), some (zi v4), some (zi v5), none], [zi 1, zi v4], h2) (by decide +kernel) rfl ?_
      exact zG_forget (L' := [some (zr (some (11, 333))), some (zi v1), some (zi v2), some (zi v3), none, some (zi v5), none]) (And.intro rfl (And.intro rfl (And.intro rfl (And.intro rfl (And.intro rfl trivial))))) (k_Mod_layCubes_j66 hl)
set_option maxRecDepth 20000 in
theorem k_Mod_layCubes_b152 {l : Launch} {X : zX} (hl : l.stackTraces = false) {h : zH} {v1 : Int32} {v2 : Int32} {v4 : Int32} {v5 : Int32} {v6 : Int32} : zGl l m_Mod_layCubes X 0 0 (f_Mod_layCubes_b152 h v1 v2 v4 v5 v6) (152, [some (zr (some (11, 333))), some (zi v1), some (zi v2), none, some (zi v4), some (zi v5), some (zi v6)], [], h) (Sum.elim (fun s : Int32 × zH => .inl (152, [some (zr (some (11, 333))), some (zi v1), some (zi v2), none, some (zi v4), some (zi v5), some (zi s.1)], [], s.2)) (fun y : zH => .inl (189, [some (zr (some (11, 333))), some (zi v1), some (zi v2), none, some (zi v4), some (zi v5), none], [], y))) := by
  unfold f_Mod_layCubes_b152
  refine zG_run t_Mod [(.iload 6, 0, 0), (.aload_n 0, 0, 0), (.getfield 40, 11, 3), (.iconst 0, 0, 0)] (159, [some (zr (some (11, 333))), some (zi v1), some (zi v2), none, some (zi v4), some (zi v5), some (zi v6)], [zi 0, zr (some (62, 336)), zi v6], h) (by decide +kernel) rfl ?_
  refine zG_aldc (v := zi (h.1 336 0)) rfl (by decide +kernel) (by decide +kernel) rfl ?_
  refine zG_icmp (op := .ge) (off := 29) (tgt := 189) (by decide +kernel) rfl Iff.rfl (fun c19 => ?_) (fun c19 => ?_)
  · exact zG_end (L' := [some (zr (some (11, 333))), some (zi v1), some (zi v2), none, some (zi v4), some (zi v5), none]) rfl (And.intro rfl (And.intro rfl (And.intro rfl (And.intro rfl (And.intro rfl trivial)))))
  · refine zG_run t_Mod [(.aload_n 0, 0, 0), (.getfield 103, 11, 32), (.bipush 6, 0, 0), (.iload 5, 0, 0), (.imul, 0, 0), (.iload 6, 0, 0), (.iadd, 0, 0), (.aload_n 0, 0, 0), (.getfield 87, 11, 27), (.iload 6, 0, 0)] (181, [some (zr (some (11, 333))), some (zi v1), some (zi v2), none, some (zi v4), some (zi v5), some (zi v6)], [zi v6, zr (some (76, 350)), zi ((6 * v5) + v6), zr (some (81, 355))], h) (by decide +kernel) rfl ?_
    refine zG_ald (v := zi (h.1 350 v6.toNatClampNeg)) (n := 6) rfl (by decide +kernel) rfl rfl fun hb16 => ?_
    refine zG_guard fun hb18 => ?_
    refine zG_bind (fun y => (183, [some (zr (some (11, 333))), some (zi v1), some (zi v2), none, some (zi v4), some (zi v5), some (zi v6)], [], y)) (zG_astc (h' := zsI h 355 ((6 * v5) + v6).toNatClampNeg (h.1 350 v6.toNatClampNeg)) rfl (by decide +kernel) hb18 rfl (zG_end (L' := [some (zr (some (11, 333))), some (zi v1), some (zi v2), none, some (zi v4), some (zi v5), some (zi v6)]) rfl (And.intro rfl (And.intro rfl (And.intro rfl (And.intro rfl (And.intro rfl (And.intro rfl trivial)))))))) fun h17 => ?_
    refine zG_run t_Mod [(.iinc 6 1, 0, 0), (.goto (-34), 0, 0)] (152, [some (zr (some (11, 333))), some (zi v1), some (zi v2), none, some (zi v4), some (zi v5), some (zi (v6 + 1))], [], h17) (by decide +kernel) rfl ?_
    exact zG_end (L' := [some (zr (some (11, 333))), some (zi v1), some (zi v2), none, some (zi v4), some (zi v5), some (zi (v6 + 1))]) rfl (And.intro rfl (And.intro rfl (And.intro rfl (And.intro rfl (And.intro rfl (And.intro rfl trivial))))))
set_option maxRecDepth 20000 in
theorem k_Mod_layCubes_j128 {l : Launch} {X : zX} (hl : l.stackTraces = false) {h : zH} {v1 : Int32} {v2 : Int32} {v4 : Int32} {v5 : Int32} : zGl l m_Mod_layCubes X 0 0 (f_Mod_layCubes_j128 h v1 v2 v4 v5) (128, [some (zr (some (11, 333))), some (zi v1), some (zi v2), none, some (zi v4), some (zi v5), none], [], h) (Sum.elim (fun s : Int32 × zH => .inl (86, [some (zr (some (11, 333))), some (zi v1), some (zi v2), none, some (zi v4), some (zi s.1), none], [], s.2)) (fun y : zH => .inl (195, [some (zr (some (11, 333))), some (zi v1), some (zi v2), none, none, none, none], [], y))) := by
  unfold f_Mod_layCubes_j128
  refine zG_run t_Mod [(.aload_n 0, 0, 0), (.iload 5, 0, 0)] (131, [some (zr (some (11, 333))), some (zi v1), some (zi v2), none, some (zi v4), some (zi v5), none], [zi v5, zr (some (11, 333))], h) (by decide +kernel) rfl ?_
  refine zG_callV (idx := 335) (R := (fun a => (some (zi a.1), a.2))) (as := [zi v5]) (rest := []) (n := 1) (fun a ha => c_Mod_isCaught hl ha) (by decide +kernel) ⟨ok_Mod_isCaught, by decide, by decide +kernel⟩ rfl w_473 w_474 w_475 (by decide) rfl rfl rfl (Nat.le_of_ble_eq_true rfl) fun x13 => ?_
  refine zG_if (op := .ne) (off := 6) (tgt := 140) (by decide +kernel) rfl Iff.rfl (fun c22 => ?_) (fun c22 => ?_)
  · refine zG_run t_Mod [(.aload_n 0, 0, 0), (.getfield 106, 11, 33), (.iload 5, 0, 0), (.iload 4, 0, 0)] (148, [some (zr (some (11, 333))), some (zi v1), some (zi v2), none, some (zi v4), some (zi v5), none], [zi v4, zi v5, zr (some (82, 356))], x13.2) (by decide +kernel) rfl ?_
    refine zG_guard fun hb15 => ?_
    refine zG_bind (fun y => (149, [some (zr (some (11, 333))), some (zi v1), some (zi v2), none, some (zi v4), some (zi v5), none], [], y)) (zG_astc (h' := zsI x13.2 356 v5.toNatClampNeg v4) rfl (by decide +kernel) hb15 rfl (zG_end (L' := [some (zr (some (11, 333))), some (zi v1), some (zi v2), none, some (zi v4), some (zi v5), none]) rfl (And.intro rfl (And.intro rfl (And.intro rfl (And.intro rfl (And.intro rfl trivial))))))) fun h14 => ?_
    refine zG_run t_Mod [(.iconst 0, 0, 0), (.istore 6, 0, 0)] (152, [some (zr (some (11, 333))), some (zi v1), some (zi v2), none, some (zi v4), some (zi v5), some (zi 0)], [], h14) (by decide +kernel) rfl ?_
    refine zG_forget (L' := [some (zr (some (11, 333))), some (zi v1), some (zi v2), none, some (zi v4), some (zi v5), some (zi 0)]) (And.intro rfl (And.intro rfl (And.intro rfl (And.intro rfl (And.intro rfl (And.intro rfl trivial)))))) ?_
    refine zG_bind (fun y : zH => (189, [some (zr (some (11, 333))), some (zi v1), some (zi v2), none, some (zi v4), some (zi v5), none], [], y)) (zG_iter (fun s : Int32 × zH => (152, [some (zr (some (11, 333))), some (zi v1), some (zi v2), none, some (zi v4), some (zi v5), some (zi s.1)], [], s.2)) fun s => k_Mod_layCubes_b152 hl) (fun y21 => ?_)
    refine zG_run t_Mod [(.iinc 5 1, 0, 0), (.goto (-106), 0, 0)] (86, [some (zr (some (11, 333))), some (zi v1), some (zi v2), none, some (zi v4), some (zi (v5 + 1)), none], [], y21) (by decide +kernel) rfl ?_
    exact zG_end (L' := [some (zr (some (11, 333))), some (zi v1), some (zi v2), none, some (zi v4), some (zi (v5 + 1)), none]) rfl (And.intro rfl (And.intro rfl (And.intro rfl (And.intro rfl (And.intro rfl trivial)))))
  · refine zG_run t_Mod [(.goto 52, 0, 0), (.iinc 5 1, 0, 0), (.goto (-106), 0, 0)] (86, [some (zr (some (11, 333))), some (zi v1), some (zi v2), none, some (zi v4), some (zi (v5 + 1)), none], [], x13.2) (by decide +kernel) rfl ?_
    exact zG_end (L' := [some (zr (some (11, 333))), some (zi v1), some (zi v2), none, some (zi v4), some (zi (v5 + 1)), none]) rfl (And.intro rfl (And.intro rfl (And.intro rfl (And.intro rfl (And.intro rfl trivial)))))
set_option maxRecDepth 20000 in
theorem k_Mod_layCubes_b86 {l : Launch} {X : zX} (hl : l.stackTraces = false) {h : zH} {v1 : Int32} {v2 : Int32} {v4 : Int32} {v5 : Int32} : zGl l m_Mod_layCubes X 0 0 (f_Mod_layCubes_b86 h v1 v2 v4 v5) (86, [some (zr (some (11, 333))), some (zi v1), some (zi v2), none, some (zi v4), some (zi v5), none], [], h) (Sum.elim (fun s : Int32 × zH => .inl (86, [some (zr (some (11, 333))), some (zi v1), some (zi v2), none, some (zi v4), some (zi s.1), none], [], s.2)) (fun y : zH => .inl (195, [some (zr (some (11, 333))), some (zi v1), some (zi v2), none, none, none, none], [], y))) := by
  unfold f_Mod_layCubes_b86
  refine zG_run t_Mod [(.iload 5, 0, 0), (.aload_n 0, 0, 0)] (89, [some (zr (some (11, 333))), some (zi v1), some (zi v2), none, some (zi v4), some (zi v5), none], [zr (some (11, 333)), zi v5], h) (by decide +kernel) rfl ?_
  refine zG_callV (idx := 332) (R := (fun a => (some (zi a), h))) (as := []) (rest := [zi v5]) (n := 0) (fun a ha => c_Mod_faults hl ha) (by decide +kernel) ⟨ok_Mod_faults, by decide, by decide +kernel⟩ rfl w_467 w_468 w_469 (by decide) rfl rfl rfl (Nat.le_of_ble_eq_true rfl) fun x10 => ?_
  refine zG_icmp (op := .ge) (off := 103) (tgt := 195) (by decide +kernel) rfl Iff.rfl (fun c27 => ?_) (fun c27 => ?_)
  · exact zG_end (L' := [some (zr (some (11, 333))), some (zi v1), some (zi v2), none, none, none, none]) rfl (And.intro rfl (And.intro rfl (And.intro rfl trivial)))
  · refine zG_run t_Mod [(.aload_n 0, 0, 0), (.getfield 109, 11, 34), (.iload 5, 0, 0)] (101, [some (zr (some (11, 333))), some (zi v1), some (zi v2), none, some (zi v4), some (zi v5), none], [zi v5, zr (some (83, 357))], h) (by decide +kernel) rfl ?_
    refine zG_ald (v := zi (h.1 357 v5.toNatClampNeg)) (n := 44) rfl (by decide +kernel) rfl rfl fun hb11 => ?_
    refine zG_if (op := .gt) (off := 87) (tgt := 189) (by decide +kernel) rfl Iff.rfl (fun c26 => ?_) (fun c26 => ?_)
    · refine zG_run t_Mod [(.iinc 5 1, 0, 0), (.goto (-106), 0, 0)] (86, [some (zr (some (11, 333))), some (zi v1), some (zi v2), none, some (zi v4), some (zi (v5 + 1)), none], [], h) (by decide +kernel) rfl ?_
      exact zG_end (L' := [some (zr (some (11, 333))), some (zi v1), some (zi v2), none, some (zi v4), some (zi (v5 + 1)), none]) rfl (And.intro rfl (And.intro rfl (And.intro rfl (And.intro rfl (And.intro rfl trivial)))))
    · refine zG_run t_Mod [(.aload_n 0, 0, 0), (.getfield 106, 11, 33), (.iload 5, 0, 0)] (111, [some (zr (some (11, 333))), some (zi v1), some (zi v2), none, some (zi v4), some (zi v5), none], [zi v5, zr (some (82, 356))], h) (by decide +kernel) rfl ?_
      refine zG_ald (v := zi (h.1 356 v5.toNatClampNeg)) (n := 44) rfl (by decide +kernel) rfl rfl fun hb12 => ?_
      refine zG_run t_Mod [(.iconst (-1), 0, 0)] (113, [some (zr (some (11, 333))), some (zi v1), some (zi v2), none, some (zi v4), some (zi v5), none], [zi (-1), zi (h.1 356 v5.toNatClampNeg)], h) (by decide +kernel) rfl ?_
      refine zG_icmp (op := .eq) (off := 15) (tgt := 128) (by decide +kernel) rfl Iff.rfl (fun c25 => ?_) (fun c25 => ?_)
      · exact zG_forget (L' := [some (zr (some (11, 333))), some (zi v1), some (zi v2), none, some (zi v4), some (zi v5), none]) (And.intro rfl (And.intro rfl (And.intro rfl (And.intro rfl (And.intro rfl trivial))))) (k_Mod_layCubes_j128 hl)
      · refine zG_run t_Mod [(.aload_n 0, 0, 0), (.getfield 106, 11, 33), (.iload 5, 0, 0)] (122, [some (zr (some (11, 333))), some (zi v1), some (zi v2), none, some (zi v4), some (zi v5), none], [zi v5, zr (some (82, 356))], h) (by decide +kernel) rfl ?_
        refine zG_ald (v := zi (h.1 356 v5.toNatClampNeg)) (n := 44) rfl (by decide +kernel) rfl rfl fun hb23 => ?_
        refine zG_run t_Mod [(.iload 4, 0, 0)] (125, [some (zr (some (11, 333))), some (zi v1), some (zi v2), none, some (zi v4), some (zi v5), none], [zi v4, zi (h.1 356 v5.toNatClampNeg)], h) (by decide +kernel) rfl ?_
        refine zG_icmp (op := .le) (off := 64) (tgt := 189) (by decide +kernel) rfl Iff.rfl (fun c24 => ?_) (fun c24 => ?_)
        · refine zG_run t_Mod [(.iinc 5 1, 0, 0), (.goto (-106), 0, 0)] (86, [some (zr (some (11, 333))), some (zi v1), some (zi v2), none, some (zi v4), some (zi (v5 + 1)), none], [], h) (by decide +kernel) rfl ?_
          exact zG_end (L' := [some (zr (some (11, 333))), some (zi v1), some (zi v2), none, some (zi v4), some (zi (v5 + 1)), none]) rfl (And.intro rfl (And.intro rfl (And.intro rfl (And.intro rfl (And.intro rfl trivial)))))
        · exact zG_forget (L' := [some (zr (some (11, 333))), some (zi v1), some (zi v2), none, some (zi v4), some (zi v5), none]) (And.intro rfl (And.intro rfl (And.intro rfl (And.intro rfl (And.intro rfl trivial))))) (k_Mod_layCubes_j128 hl)
set_option maxRecDepth 20000 in
theorem k_Mod_layCubes_b13 {l : Launch} {X : zX} (hl : l.stackTraces = false) {h : zH} {v1 : Int32} {v2 : Int32} : zGl l m_Mod_layCubes X 0 0 (f_Mod_layCubes_b13 h v1 v2) (13, [some (zr (some (11, 333))), some (zi v1), some (zi v2), none, none, none, none], [], h) (Sum.elim (fun s : Int32 × zH => .inl (13, [some (zr (some (11, 333))), some (zi v1), some (zi s.1), none, none, none, none], [], s.2)) (fun y : zH => .inl (201, [none, none, none, none, none, none, none], [], y))) := by
  unfold f_Mod_layCubes_b13
  refine zG_run t_Mod [(.iload_n 2, 0, 0), (.iload_n 1, 0, 0)] (15, [some (zr (some (11, 333))), some (zi v1), some (zi v2), none, none, none, none], [zi v1, zi v2], h) (by decide +kernel) rfl ?_
  refine zG_icmp (op := .ge) (off := 186) (tgt := 201) (by decide +kernel) rfl Iff.rfl (fun c30 => ?_) (fun c30 => ?_)
  · exact zG_end (L' := [none, none, none, none, none, none, none]) rfl (trivial)
  · refine zG_run t_Mod [(.iload_n 2, 0, 0), (.istore_n 3, 0, 0), (.iconst 0, 0, 0), (.istore 4, 0, 0), (.aload_n 0, 0, 0), (.getfield 40, 11, 3), (.iconst 0, 0, 0)] (28, [some (zr (some (11, 333))), some (zi v1), some (zi v2), some (zi v2), some (zi 0), none, none], [zi 0, zr (some (62, 336))], h) (by decide +kernel) rfl ?_
    refine zG_aldc (v := zi (h.1 336 0)) rfl (by decide +kernel) (by decide +kernel) rfl ?_
    refine zG_run t_Mod [(.iconst 1, 0, 0), (.isub, 0, 0), (.istore 5, 0, 0)] (33, [some (zr (some (11, 333))), some (zi v1), some (zi v2), some (zi v2), some (zi 0), some (zi ((h.1 336 0) - 1)), none], [], h) (by decide +kernel) rfl ?_
    refine zG_forget (L' := [some (zr (some (11, 333))), some (zi v1), some (zi v2), some (zi v2), some (zi 0), some (zi ((h.1 336 0) - 1)), none]) (And.intro rfl (And.intro rfl (And.intro rfl (And.intro rfl (And.intro rfl (And.intro rfl trivial)))))) ?_
    refine zG_bind (fun y : Int32 × zH => (79, [some (zr (some (11, 333))), some (zi v1), some (zi v2), none, some (zi y.1), none, none], [], y.2)) (zG_iter (fun s : Int32 × Int32 × Int32 × zH => (33, [some (zr (some (11, 333))), some (zi v1), some (zi v2), some (zi s.1), some (zi s.2.1), some (zi s.2.2.1), none], [], s.2.2.2)) fun s => k_Mod_layCubes_b33 hl) (fun y8 => ?_)
    refine zG_run t_Mod [(.aload_n 0, 0, 0)] (80, [some (zr (some (11, 333))), some (zi v1), some (zi v2), none, some (zi y8.1), none, none], [zr (some (11, 333))], y8.2) (by decide +kernel) rfl ?_
    refine zG_callV (idx := 329) (R := (fun a => (none, a))) (as := []) (rest := []) (n := 0) (fun a ha => c_Mod_tellPlain hl ha) (by decide +kernel) ⟨ok_Mod_tellPlain, by decide, by decide +kernel⟩ rfl w_464 w_465 w_466 (by decide) rfl rfl rfl (Nat.le_of_ble_eq_true rfl) fun x9 => ?_
    refine zG_run t_Mod [(.iconst 0, 0, 0), (.istore 5, 0, 0)] (86, [some (zr (some (11, 333))), some (zi v1), some (zi v2), none, some (zi y8.1), some (zi 0), none], [], x9) (by decide +kernel) rfl ?_
    refine zG_forget (L' := [some (zr (some (11, 333))), some (zi v1), some (zi v2), none, some (zi y8.1), some (zi 0), none]) (And.intro rfl (And.intro rfl (And.intro rfl (And.intro rfl (And.intro rfl trivial))))) ?_
    refine zG_bind (fun y : zH => (195, [some (zr (some (11, 333))), some (zi v1), some (zi v2), none, none, none, none], [], y)) (zG_iter (fun s : Int32 × zH => (86, [some (zr (some (11, 333))), some (zi v1), some (zi v2), none, some (zi y8.1), some (zi s.1), none], [], s.2)) fun s => k_Mod_layCubes_b86 hl) (fun y29 => ?_)
    refine zG_run t_Mod [(.iinc 2 1, 0, 0), (.goto (-185), 0, 0)] (13, [some (zr (some (11, 333))), some (zi v1), some (zi (v2 + 1)), none, none, none, none], [], y29) (by decide +kernel) rfl ?_
    exact zG_end (L' := [some (zr (some (11, 333))), some (zi v1), some (zi (v2 + 1)), none, none, none, none]) rfl (And.intro rfl (And.intro rfl (And.intro rfl trivial)))
set_option maxRecDepth 20000 in
theorem k_Mod_layCubes {l : Launch} {X : zX} (hl : l.stackTraces = false) {h : zH} : zGl l m_Mod_layCubes X 0 0 (f_Mod_layCubes h) (0, [some (zr (some (11, 333))), none, none, none, none, none, none], [], h) (fun x => .inr ((fun a => (.inl none, a) : zH → zF) x)) := by
  unfold f_Mod_layCubes
  refine zG_run t_Mod [(.iconst 3, 0, 0), (.aload_n 0, 0, 0), (.getfield 40, 11, 3), (.iconst 0, 0, 0)] (6, [some (zr (some (11, 333))), none, none, none, none, none, none], [zi 0, zr (some (62, 336)), zi 3], h) (by decide +kernel) rfl ?_
  refine zG_aldc (v := zi (h.1 336 0)) rfl (by decide +kernel) (by decide +kernel) rfl ?_
  refine zG_callS (idx := 338) (R := (fun a => (some (zi a), h))) (as := [zi 3, zi (h.1 336 0)]) (rest := []) (n := 2) (fun a ha => c_Mod_powerOf hl ha) (by decide +kernel) ⟨ok_Mod_powerOf, by decide, by decide +kernel⟩ rfl w_479 w_480 rfl rfl (Nat.le_of_ble_eq_true rfl) fun x1 => ?_
  refine zG_run t_Mod [(.istore_n 1, 0, 0), (.iconst 0, 0, 0), (.istore_n 2, 0, 0)] (13, [some (zr (some (11, 333))), some (zi x1), some (zi 0), none, none, none, none], [], h) (by decide +kernel) rfl ?_
  refine zG_forget (L' := [some (zr (some (11, 333))), some (zi x1), some (zi 0), none, none, none, none]) (And.intro rfl (And.intro rfl (And.intro rfl trivial))) ?_
  refine zG_bind (fun y : zH => (201, [none, none, none, none, none, none, none], [], y)) (zG_iter (fun s : Int32 × zH => (13, [some (zr (some (11, 333))), some (zi x1), some (zi s.1), none, none, none, none], [], s.2)) fun s => k_Mod_layCubes_b13 hl) (fun y32 => ?_)
  exact zG_ret (r := none) rfl (zrd_v rfl (by decide +kernel))
theorem c_Mod_layCubes {l : Launch} {X : zX} (hl : l.stackTraces = false) {h : zH} {x : zH} (hx : f_Mod_layCubes h = some x) : zCt l (true, 2) 2 m_Mod_layCubes X 0 0 [zr (some (11, 333))] h ((fun a => (.inl none, a) : zH → zF) x) :=
  zG_ct (R := fun a => (.inl none, a)) (x := x) ok_Mod_layCubes hl (Nat.le_of_ble_eq_true rfl) hx (k_Mod_layCubes hl)
def m_Mod_layDown : zM := (({ cls := "ScanPackerModel", name := "layDown", desc := "()V" } : Jvm.MethodName), prog_13_method_44_code, 1, (Option.none : Option Jvm.ClassFile.FieldType), [], 5)
theorem ok_Mod_layDown : zMok m_Mod_layDown := ⟨by decide +kernel, zW_of 1389 (by decide +kernel) (by decide +kernel), zW_of 134 (by decide +kernel) (by decide +kernel), by decide, by decide +kernel, by decide +kernel⟩
set_option maxRecDepth 20000 in
theorem k_Mod_layDown {l : Launch} {X : zX} (hl : l.stackTraces = false) {h : zH} : zGl l m_Mod_layDown X 0 0 (f_Mod_layDown h) (0, [some (zr (some (11, 333)))], [], h) (fun x => .inr ((fun a => (.inl none, a) : zH → zF) x)) := by
  unfold f_Mod_layDown
  refine zG_run t_Mod [(.aload_n 0, 0, 0)] (1, [some (zr (some (11, 333)))], [zr (some (11, 333))], h) (by decide +kernel) rfl ?_
  refine zG_callV (idx := 342) (R := (fun a => (none, a))) (as := []) (rest := []) (n := 0) (fun a ha => c_Mod_layTests hl ha) (by decide +kernel) ⟨ok_Mod_layTests, by decide, by decide +kernel⟩ rfl w_476 w_477 w_478 (by decide) rfl rfl rfl (Nat.le_of_ble_eq_true rfl) fun x1 => ?_
  refine zG_run t_Mod [(.aload_n 0, 0, 0)] (5, [some (zr (some (11, 333)))], [zr (some (11, 333))], x1) (by decide +kernel) rfl ?_
  refine zG_callV (idx := 345) (R := (fun a => (none, a))) (as := []) (rest := []) (n := 0) (fun a ha => c_Mod_layCubes hl ha) (by decide +kernel) ⟨ok_Mod_layCubes, by decide, by decide +kernel⟩ rfl w_481 w_482 w_483 (by decide) rfl rfl rfl (Nat.le_of_ble_eq_true rfl) fun x2 => ?_
  exact zG_ret (r := none) rfl (zrd_v rfl (by decide +kernel))
theorem c_Mod_layDown {l : Launch} {X : zX} (hl : l.stackTraces = false) {h : zH} {x : zH} (hx : f_Mod_layDown h = some x) : zCt l (true, 2) 2 m_Mod_layDown X 0 0 [zr (some (11, 333))] h ((fun a => (.inl none, a) : zH → zF) x) :=
  zG_ct (R := fun a => (.inl none, a)) (x := x) ok_Mod_layDown hl (Nat.le_of_ble_eq_true rfl) hx (k_Mod_layDown hl)
def m_Mod_takeOver : zM := (({ cls := "ScanPackerModel", name := "takeOver", desc := "()V" } : Jvm.MethodName), prog_13_method_32_code, 2, (Option.none : Option Jvm.ClassFile.FieldType), [], 6)
theorem ok_Mod_takeOver : zMok m_Mod_takeOver := ⟨by decide +kernel, zW_of 1784 (by decide +kernel) (by decide +kernel), zW_of 134 (by decide +kernel) (by decide +kernel), by decide, by decide +kernel, by decide +kernel⟩
set_option maxRecDepth 20000 in
theorem k_Mod_takeOver_b79 {l : Launch} {X : zX} (hl : l.stackTraces = false) {h : zH} {v1 : Int32} : zGl l m_Mod_takeOver X 0 0 (f_Mod_takeOver_b79 h v1) (79, [some (zr (some (11, 333))), some (zi v1)], [], h) (Sum.elim (fun s : Int32 × zH => .inl (79, [some (zr (some (11, 333))), some (zi s.1)], [], s.2)) (fun y : zH => .inl (98, [some (zr (some (11, 333))), none], [], y))) := by
  unfold f_Mod_takeOver_b79
  refine zG_run t_Mod [(.iload_n 1, 0, 0), (.bipush 57, 0, 0)] (82, [some (zr (some (11, 333))), some (zi v1)], [zi 57, zi v1], h) (by decide +kernel) rfl ?_
  refine zG_icmp (op := .ge) (off := 16) (tgt := 98) (by decide +kernel) rfl Iff.rfl (fun c14 => ?_) (fun c14 => ?_)
  · exact zG_end (L' := [some (zr (some (11, 333))), none]) rfl (And.intro rfl trivial)
  · refine zG_run t_Mod [(.aload_n 0, 0, 0), (.getfield 74, 11, 14), (.iload_n 1, 0, 0), (.iconst 0, 0, 0)] (91, [some (zr (some (11, 333))), some (zi v1)], [zi 0, zi v1, zr (some (73, 347))], h) (by decide +kernel) rfl ?_
    refine zG_guard fun hb13 => ?_
    refine zG_bind (fun y => (92, [some (zr (some (11, 333))), some (zi v1)], [], y)) (zG_astc (h' := zsI h 347 v1.toNatClampNeg 0) rfl (by decide +kernel) hb13 rfl (zG_end (L' := [some (zr (some (11, 333))), some (zi v1)]) rfl (And.intro rfl (And.intro rfl trivial)))) fun h12 => ?_
    refine zG_run t_Mod [(.iinc 1 1, 0, 0), (.goto (-16), 0, 0)] (79, [some (zr (some (11, 333))), some (zi (v1 + 1))], [], h12) (by decide +kernel) rfl ?_
    exact zG_end (L' := [some (zr (some (11, 333))), some (zi (v1 + 1))]) rfl (And.intro rfl (And.intro rfl trivial))
set_option maxRecDepth 20000 in
theorem k_Mod_takeOver {l : Launch} {X : zX} (hl : l.stackTraces = false) {h : zH} : zGl l m_Mod_takeOver X 0 0 (f_Mod_takeOver h) (0, [some (zr (some (11, 333))), none], [], h) (fun x => .inr ((fun a => (.inl none, a) : zH → zF) x)) := by
  unfold f_Mod_takeOver
  refine zG_run t_Mod [(.aload_n 0, 0, 0), (.getfield 40, 11, 3)] (4, [some (zr (some (11, 333))), none], [zr (some (62, 336))], h) (by decide +kernel) rfl ?_
  refine zG_callS (idx := 297) (R := (fun a => (none, a))) (as := [zr (some (62, 336))]) (rest := []) (n := 1) (fun a ha => c_Mod_takeHalf_62 hl ha) (by decide +kernel) ⟨ok_Mod_takeHalf_62, by decide, by decide +kernel⟩ rfl w_447 w_448 rfl rfl (Nat.le_of_ble_eq_true rfl) fun x1 => ?_
  refine zG_run t_Mod [(.aload_n 0, 0, 0), (.getfield 44, 11, 4)] (11, [some (zr (some (11, 333))), none], [zr (some (63, 337))], x1) (by decide +kernel) rfl ?_
  refine zG_callS (idx := 297) (R := (fun a => (none, a))) (as := [zr (some (63, 337))]) (rest := []) (n := 1) (fun a ha => c_Mod_takeHalf_63 hl ha) (by decide +kernel) ⟨ok_Mod_takeHalf_63, by decide, by decide +kernel⟩ rfl w_447 w_448 rfl rfl (Nat.le_of_ble_eq_true rfl) fun x2 => ?_
  refine zG_run t_Mod [(.aload_n 0, 0, 0), (.getfield 47, 11, 5)] (18, [some (zr (some (11, 333))), none], [zr (some (64, 338))], x2) (by decide +kernel) rfl ?_
  refine zG_callS (idx := 297) (R := (fun a => (none, a))) (as := [zr (some (64, 338))]) (rest := []) (n := 1) (fun a ha => c_Mod_takeHalf_64 hl ha) (by decide +kernel) ⟨ok_Mod_takeHalf_64, by decide, by decide +kernel⟩ rfl w_447 w_448 rfl rfl (Nat.le_of_ble_eq_true rfl) fun x3 => ?_
  refine zG_run t_Mod [(.aload_n 0, 0, 0), (.getfield 50, 11, 6)] (25, [some (zr (some (11, 333))), none], [zr (some (65, 339))], x3) (by decide +kernel) rfl ?_
  refine zG_callS (idx := 297) (R := (fun a => (none, a))) (as := [zr (some (65, 339))]) (rest := []) (n := 1) (fun a ha => c_Mod_takeHalf_65 hl ha) (by decide +kernel) ⟨ok_Mod_takeHalf_65, by decide, by decide +kernel⟩ rfl w_447 w_448 rfl rfl (Nat.le_of_ble_eq_true rfl) fun x4 => ?_
  refine zG_run t_Mod [(.aload_n 0, 0, 0), (.getfield 53, 11, 7)] (32, [some (zr (some (11, 333))), none], [zr (some (66, 340))], x4) (by decide +kernel) rfl ?_
  refine zG_callS (idx := 297) (R := (fun a => (none, a))) (as := [zr (some (66, 340))]) (rest := []) (n := 1) (fun a ha => c_Mod_takeHalf_66 hl ha) (by decide +kernel) ⟨ok_Mod_takeHalf_66, by decide, by decide +kernel⟩ rfl w_447 w_448 rfl rfl (Nat.le_of_ble_eq_true rfl) fun x5 => ?_
  refine zG_run t_Mod [(.aload_n 0, 0, 0), (.getfield 56, 11, 8)] (39, [some (zr (some (11, 333))), none], [zr (some (67, 341))], x5) (by decide +kernel) rfl ?_
  refine zG_callS (idx := 297) (R := (fun a => (none, a))) (as := [zr (some (67, 341))]) (rest := []) (n := 1) (fun a ha => c_Mod_takeHalf_67 hl ha) (by decide +kernel) ⟨ok_Mod_takeHalf_67, by decide, by decide +kernel⟩ rfl w_447 w_448 rfl rfl (Nat.le_of_ble_eq_true rfl) fun x6 => ?_
  refine zG_run t_Mod [(.aload_n 0, 0, 0), (.getfield 59, 11, 9)] (46, [some (zr (some (11, 333))), none], [zr (some (68, 342))], x6) (by decide +kernel) rfl ?_
  refine zG_callS (idx := 297) (R := (fun a => (none, a))) (as := [zr (some (68, 342))]) (rest := []) (n := 1) (fun a ha => c_Mod_takeHalf_68 hl ha) (by decide +kernel) ⟨ok_Mod_takeHalf_68, by decide, by decide +kernel⟩ rfl w_447 w_448 rfl rfl (Nat.le_of_ble_eq_true rfl) fun x7 => ?_
  refine zG_run t_Mod [(.aload_n 0, 0, 0), (.getfield 62, 11, 10)] (53, [some (zr (some (11, 333))), none], [zr (some (69, 343))], x7) (by decide +kernel) rfl ?_
  refine zG_callS (idx := 297) (R := (fun a => (none, a))) (as := [zr (some (69, 343))]) (rest := []) (n := 1) (fun a ha => c_Mod_takeHalf_69 hl ha) (by decide +kernel) ⟨ok_Mod_takeHalf_69, by decide, by decide +kernel⟩ rfl w_447 w_448 rfl rfl (Nat.le_of_ble_eq_true rfl) fun x8 => ?_
  refine zG_run t_Mod [(.aload_n 0, 0, 0), (.getfield 65, 11, 11)] (60, [some (zr (some (11, 333))), none], [zr (some (70, 344))], x8) (by decide +kernel) rfl ?_
  refine zG_callS (idx := 297) (R := (fun a => (none, a))) (as := [zr (some (70, 344))]) (rest := []) (n := 1) (fun a ha => c_Mod_takeHalf_70 hl ha) (by decide +kernel) ⟨ok_Mod_takeHalf_70, by decide, by decide +kernel⟩ rfl w_447 w_448 rfl rfl (Nat.le_of_ble_eq_true rfl) fun x9 => ?_
  refine zG_run t_Mod [(.aload_n 0, 0, 0), (.getfield 68, 11, 12)] (67, [some (zr (some (11, 333))), none], [zr (some (71, 345))], x9) (by decide +kernel) rfl ?_
  refine zG_callS (idx := 297) (R := (fun a => (none, a))) (as := [zr (some (71, 345))]) (rest := []) (n := 1) (fun a ha => c_Mod_takeHalf_71 hl ha) (by decide +kernel) ⟨ok_Mod_takeHalf_71, by decide, by decide +kernel⟩ rfl w_447 w_448 rfl rfl (Nat.le_of_ble_eq_true rfl) fun x10 => ?_
  refine zG_run t_Mod [(.aload_n 0, 0, 0), (.getfield 71, 11, 13)] (74, [some (zr (some (11, 333))), none], [zr (some (72, 346))], x10) (by decide +kernel) rfl ?_
  refine zG_callS (idx := 297) (R := (fun a => (none, a))) (as := [zr (some (72, 346))]) (rest := []) (n := 1) (fun a ha => c_Mod_takeHalf_72 hl ha) (by decide +kernel) ⟨ok_Mod_takeHalf_72, by decide, by decide +kernel⟩ rfl w_447 w_448 rfl rfl (Nat.le_of_ble_eq_true rfl) fun x11 => ?_
  refine zG_run t_Mod [(.iconst 0, 0, 0), (.istore_n 1, 0, 0)] (79, [some (zr (some (11, 333))), some (zi 0)], [], x11) (by decide +kernel) rfl ?_
  refine zG_forget (L' := [some (zr (some (11, 333))), some (zi 0)]) (And.intro rfl (And.intro rfl trivial)) ?_
  refine zG_bind (fun y : zH => (98, [some (zr (some (11, 333))), none], [], y)) (zG_iter (fun s : Int32 × zH => (79, [some (zr (some (11, 333))), some (zi s.1)], [], s.2)) fun s => k_Mod_takeOver_b79 hl) (fun y16 => ?_)
  refine zG_run t_Mod [(.aload_n 0, 0, 0), (.getfield 74, 11, 14), (.iconst 2, 0, 0), (.iconst (-1), 0, 0)] (104, [some (zr (some (11, 333))), none], [zi (-1), zi 2, zr (some (73, 347))], y16) (by decide +kernel) rfl ?_
  refine zG_bind (fun y => (105, [some (zr (some (11, 333))), none], [], y)) (zG_astc (h' := zsI y16 347 2 (-1)) rfl (by decide +kernel) (by decide +kernel) rfl (zG_end (L' := [some (zr (some (11, 333))), none]) rfl (And.intro rfl trivial))) fun h17 => ?_
  refine zG_run t_Mod [(.aload_n 0, 0, 0), (.getfield 74, 11, 14), (.iconst 3, 0, 0), (.aload_n 0, 0, 0), (.getfield 40, 11, 3), (.iconst 3, 0, 0)] (115, [some (zr (some (11, 333))), none], [zi 3, zr (some (62, 336)), zi 3, zr (some (73, 347))], h17) (by decide +kernel) rfl ?_
  refine zG_aldc (v := zi (h17.1 336 3)) rfl (by decide +kernel) (by decide +kernel) rfl ?_
  refine zG_bind (fun y => (117, [some (zr (some (11, 333))), none], [], y)) (zG_astc (h' := zsI h17 347 3 (h17.1 336 3)) rfl (by decide +kernel) (by decide +kernel) rfl (zG_end (L' := [some (zr (some (11, 333))), none]) rfl (And.intro rfl trivial))) fun h18 => ?_
  refine zG_bind (fun y => (122, [some (zr (some (11, 333))), none], [], y)) (zG_run t_Mod [(.aload_n 0, 0, 0), (.iconst 0, 0, 0), (.putfield 301, 11, 45)] (122, [some (zr (some (11, 333))), none], [], zsI h18 333 45 0) (by decide +kernel) rfl (zG_end (L' := [some (zr (some (11, 333))), none]) rfl (And.intro rfl trivial))) fun h19 => ?_
  refine zG_bind (fun y => (127, [some (zr (some (11, 333))), none], [], y)) (zG_run t_Mod [(.aload_n 0, 0, 0), (.iconst 0, 0, 0), (.putfield 304, 11, 47)] (127, [some (zr (some (11, 333))), none], [], zsI h19 333 47 0) (by decide +kernel) rfl (zG_end (L' := [some (zr (some (11, 333))), none]) rfl (And.intro rfl trivial))) fun h20 => ?_
  refine zG_bind (fun y => (132, [some (zr (some (11, 333))), none], [], y)) (zG_run t_Mod [(.aload_n 0, 0, 0), (.iconst 0, 0, 0), (.putfield 307, 11, 55)] (132, [some (zr (some (11, 333))), none], [], zsI h20 333 55 0) (by decide +kernel) rfl (zG_end (L' := [some (zr (some (11, 333))), none]) rfl (And.intro rfl trivial))) fun h21 => ?_
  refine zG_run t_Mod [(.aload_n 0, 0, 0)] (133, [some (zr (some (11, 333))), none], [zr (some (11, 333))], h21) (by decide +kernel) rfl ?_
  refine zG_callV (idx := 178) (R := (fun a => (none, a))) (as := []) (rest := []) (n := 0) (fun a ha => c_Mod_layDown hl ha) (by decide +kernel) ⟨ok_Mod_layDown, by decide, by decide +kernel⟩ rfl w_484 w_485 w_486 (by decide) rfl rfl rfl (Nat.le_of_ble_eq_true rfl) fun x22 => ?_
  exact zG_ret (r := none) rfl (zrd_v rfl (by decide +kernel))
theorem c_Mod_takeOver {l : Launch} {X : zX} (hl : l.stackTraces = false) {h : zH} {x : zH} (hx : f_Mod_takeOver h = some x) : zCt l (true, 2) 2 m_Mod_takeOver X 0 0 [zr (some (11, 333))] h ((fun a => (.inl none, a) : zH → zF) x) :=
  zG_ct (R := fun a => (.inl none, a)) (x := x) ok_Mod_takeOver hl (Nat.le_of_ble_eq_true rfl) hx (k_Mod_takeOver hl)
def m_Mod_net : zM := (({ cls := "ScanPackerModel", name := "net", desc := "(I)I" } : Jvm.MethodName), prog_13_method_30_code, 3, (Option.some Jvm.ClassFile.FieldType.int), [], 13)
theorem ok_Mod_net : zMok m_Mod_net := ⟨by decide +kernel, zW_of 1642 (by decide +kernel) (by decide +kernel), zW_of 134 (by decide +kernel) (by decide +kernel), by decide, by decide +kernel, by decide +kernel⟩
set_option maxRecDepth 20000 in
theorem k_Mod_net_j17 {l : Launch} {X : zX} (hl : l.stackTraces = false) {h : zH} : zGl l m_Mod_net X 0 0 (f_Mod_net_j17 h) (17, [some (zr (some (11, 333))), none, none], [], h) (fun x => .inr ((fun a => (.inl (some (zi a.1)), a.2) : Int32 × zH → zF) x)) := by
  unfold f_Mod_net_j17
  refine zG_run t_Mod [(.aload_n 0, 0, 0), (.iconst 1, 0, 0)] (19, [some (zr (some (11, 333))), none, none], [zi 1, zr (some (11, 333))], h) (by decide +kernel) rfl ?_
  refine zG_callV (idx := 288) (R := (fun a => (some (zi a.1), a.2))) (as := [zi 1]) (rest := []) (n := 1) (fun a ha => c_Mod_fail hl ha) (by decide +kernel) ⟨ok_Mod_fail, by decide, by decide +kernel⟩ rfl w_378 w_379 w_380 (by decide) rfl rfl rfl (Nat.le_of_ble_eq_true rfl) fun x2 => ?_
  exact zG_ret (r := some (zi x2.1)) rfl (zrd_i rfl (by decide +kernel))
set_option maxRecDepth 20000 in
theorem k_Mod_net_b50 {l : Launch} {X : zX} (hl : l.stackTraces = false) {h : zH} {v2 : Int32} : zGl l m_Mod_net X 0 0 (f_Mod_net_b50 h v2) (50, [some (zr (some (11, 333))), none, some (zi v2)], [], h) (Sum.elim (fun s : Int32 × zH => .inl (50, [some (zr (some (11, 333))), none, some (zi s.1)], [], s.2)) (fun y : zH => .inl (70, [some (zr (some (11, 333))), none, none], [], y))) := by
  unfold f_Mod_net_b50
  refine zG_run t_Mod [(.iload_n 2, 0, 0), (.iconst 5, 0, 0)] (52, [some (zr (some (11, 333))), none, some (zi v2)], [zi 5, zi v2], h) (by decide +kernel) rfl ?_
  refine zG_icmp (op := .ge) (off := 18) (tgt := 70) (by decide +kernel) rfl Iff.rfl (fun c10 => ?_) (fun c10 => ?_)
  · exact zG_end (L' := [some (zr (some (11, 333))), none, none]) rfl (And.intro rfl trivial)
  · refine zG_run t_Mod [(.aload_n 0, 0, 0), (.getfield 40, 11, 3), (.iconst 5, 0, 0), (.iload_n 2, 0, 0), (.iadd, 0, 0), (.iconst 0, 0, 0)] (63, [some (zr (some (11, 333))), none, some (zi v2)], [zi 0, zi (5 + v2), zr (some (62, 336))], h) (by decide +kernel) rfl ?_
    refine zG_guard fun hb9 => ?_
    refine zG_bind (fun y => (64, [some (zr (some (11, 333))), none, some (zi v2)], [], y)) (zG_astc (h' := zsI h 336 (5 + v2).toNatClampNeg 0) rfl (by decide +kernel) hb9 rfl (zG_end (L' := [some (zr (some (11, 333))), none, some (zi v2)]) rfl (And.intro rfl (And.intro rfl trivial)))) fun h8 => ?_
    refine zG_run t_Mod [(.iinc 2 1, 0, 0), (.goto (-17), 0, 0)] (50, [some (zr (some (11, 333))), none, some (zi (v2 + 1))], [], h8) (by decide +kernel) rfl ?_
    exact zG_end (L' := [some (zr (some (11, 333))), none, some (zi (v2 + 1))]) rfl (And.intro rfl (And.intro rfl trivial))
set_option maxRecDepth 20000 in
theorem k_Mod_net_b74 {l : Launch} {X : zX} (hl : l.stackTraces = false) {h : zH} : zGl l m_Mod_net X 0 0 (f_Mod_net_b74 h) (74, [some (zr (some (11, 333))), none, none], [], h) (Sum.elim (fun s : zH => .inl (74, [some (zr (some (11, 333))), none, none], [], s)) (fun y : zH => .inl (95, [some (zr (some (11, 333))), none, none], [], y))) := by
  unfold f_Mod_net_b74
  refine zG_run t_Mod [(.aload_n 0, 0, 0), (.getfield 216, 11, 24)] (78, [some (zr (some (11, 333))), none, none], [zi (h.1 333 24)], h) (by decide +kernel) rfl ?_
  refine zG_if (op := .ne) (off := 17) (tgt := 95) (by decide +kernel) rfl Iff.rfl (fun c16 => ?_) (fun c16 => ?_)
  · exact zG_end (L' := [some (zr (some (11, 333))), none, none]) rfl (And.intro rfl trivial)
  · refine zG_run t_Mod [(.aload_n 0, 0, 0), (.getfield 200, 11, 20)] (85, [some (zr (some (11, 333))), none, none], [zi (h.1 333 20)], h) (by decide +kernel) rfl ?_
    refine zG_if (op := .eq) (off := 10) (tgt := 95) (by decide +kernel) rfl Iff.rfl (fun c15 => ?_) (fun c15 => ?_)
    · exact zG_end (L' := [some (zr (some (11, 333))), none, none]) rfl (And.intro rfl trivial)
    · refine zG_run t_Mod [(.aload_n 0, 0, 0)] (89, [some (zr (some (11, 333))), none, none], [zr (some (11, 333))], h) (by decide +kernel) rfl ?_
      refine zG_callV (idx := 291) (R := (fun a => (none, a))) (as := []) (rest := []) (n := 0) (fun a ha => c_Mod_readClause hl ha) (by decide +kernel) ⟨ok_Mod_readClause, by decide, by decide +kernel⟩ rfl w_444 w_445 w_446 (by decide) rfl rfl rfl (Nat.le_of_ble_eq_true rfl) fun x14 => ?_
      refine zG_run t_Mod [(.goto (-18), 0, 0)] (74, [some (zr (some (11, 333))), none, none], [], x14) (by decide +kernel) rfl ?_
      exact zG_end (L' := [some (zr (some (11, 333))), none, none]) rfl (And.intro rfl trivial)
set_option maxRecDepth 20000 in
theorem k_Mod_net {l : Launch} {X : zX} (hl : l.stackTraces = false) {h : zH} {v1 : Int32} : zGl l m_Mod_net X 0 0 (f_Mod_net h v1) (0, [some (zr (some (11, 333))), some (zi v1), none], [], h) (fun x => .inr ((fun a => (.inl (some (zi a.1)), a.2) : Int32 × zH → zF) x)) := by
  unfold f_Mod_net
  refine zG_bind (fun y => (5, [some (zr (some (11, 333))), some (zi v1), none], [], y)) (zG_run t_Mod [(.aload_n 0, 0, 0), (.iconst 0, 0, 0), (.putfield 181, 11, 2)] (5, [some (zr (some (11, 333))), some (zi v1), none], [], zsI h 333 2 0) (by decide +kernel) rfl (zG_end (L' := [some (zr (some (11, 333))), some (zi v1), none]) rfl (And.intro rfl (And.intro rfl trivial)))) fun h1 => ?_
  refine zG_run t_Mod [(.iload_n 1, 0, 0)] (6, [some (zr (some (11, 333))), some (zi v1), none], [zi v1], h1) (by decide +kernel) rfl ?_
  refine zG_if (op := .lt) (off := 11) (tgt := 17) (by decide +kernel) rfl Iff.rfl (fun c24 => ?_) (fun c24 => ?_)
  · exact zG_forget (L' := [some (zr (some (11, 333))), none, none]) (And.intro rfl trivial) (k_Mod_net_j17 hl)
  · refine zG_run t_Mod [(.iload_n 1, 0, 0), (.aload_n 0, 0, 0), (.getfield 184, 11, 17)] (14, [some (zr (some (11, 333))), some (zi v1), none], [zi (h1.1 333 17), zi v1], h1) (by decide +kernel) rfl ?_
    refine zG_icmp (op := .le) (off := 9) (tgt := 23) (by decide +kernel) rfl Iff.rfl (fun c23 => ?_) (fun c23 => ?_)
    · refine zG_bind (fun y => (28, [some (zr (some (11, 333))), some (zi v1), none], [], y)) (zG_run t_Mod [(.aload_n 0, 0, 0), (.iconst 0, 0, 0), (.putfield 184, 11, 17)] (28, [some (zr (some (11, 333))), some (zi v1), none], [], zsI h1 333 17 0) (by decide +kernel) rfl (zG_end (L' := [some (zr (some (11, 333))), some (zi v1), none]) rfl (And.intro rfl (And.intro rfl trivial)))) fun h3 => ?_
      refine zG_bind (fun y => (33, [some (zr (some (11, 333))), some (zi v1), none], [], y)) (zG_run t_Mod [(.aload_n 0, 0, 0), (.iload_n 1, 0, 0), (.putfield 187, 11, 19)] (33, [some (zr (some (11, 333))), some (zi v1), none], [], zsI h3 333 19 v1) (by decide +kernel) rfl (zG_end (L' := [some (zr (some (11, 333))), some (zi v1), none]) rfl (And.intro rfl (And.intro rfl trivial)))) fun h4 => ?_
      refine zG_bind (fun y => (38, [some (zr (some (11, 333))), some (zi v1), none], [], y)) (zG_run t_Mod [(.aload_n 0, 0, 0), (.iconst 0, 0, 0), (.putfield 190, 11, 18)] (38, [some (zr (some (11, 333))), some (zi v1), none], [], zsI h4 333 18 0) (by decide +kernel) rfl (zG_end (L' := [some (zr (some (11, 333))), some (zi v1), none]) rfl (And.intro rfl (And.intro rfl trivial)))) fun h5 => ?_
      refine zG_bind (fun y => (43, [some (zr (some (11, 333))), some (zi v1), none], [], y)) (zG_run t_Mod [(.aload_n 0, 0, 0), (.iconst 0, 0, 0), (.putfield 216, 11, 24)] (43, [some (zr (some (11, 333))), some (zi v1), none], [], zsI h5 333 24 0) (by decide +kernel) rfl (zG_end (L' := [some (zr (some (11, 333))), some (zi v1), none]) rfl (And.intro rfl (And.intro rfl trivial)))) fun h6 => ?_
      refine zG_bind (fun y => (48, [some (zr (some (11, 333))), some (zi v1), none], [], y)) (zG_run t_Mod [(.aload_n 0, 0, 0), (.iconst (-1), 0, 0), (.putfield 83, 11, 26)] (48, [some (zr (some (11, 333))), some (zi v1), none], [], zsI h6 333 26 (-1)) (by decide +kernel) rfl (zG_end (L' := [some (zr (some (11, 333))), some (zi v1), none]) rfl (And.intro rfl (And.intro rfl trivial)))) fun h7 => ?_
      refine zG_run t_Mod [(.iconst 0, 0, 0), (.istore_n 2, 0, 0)] (50, [some (zr (some (11, 333))), some (zi v1), some (zi 0)], [], h7) (by decide +kernel) rfl ?_
      refine zG_forget (L' := [some (zr (some (11, 333))), none, some (zi 0)]) (And.intro rfl (And.intro rfl trivial)) ?_
      refine zG_bind (fun y : zH => (70, [some (zr (some (11, 333))), none, none], [], y)) (zG_iter (fun s : Int32 × zH => (50, [some (zr (some (11, 333))), none, some (zi s.1)], [], s.2)) fun s => k_Mod_net_b50 hl) (fun y12 => ?_)
      refine zG_run t_Mod [(.aload_n 0, 0, 0)] (71, [some (zr (some (11, 333))), none, none], [zr (some (11, 333))], y12) (by decide +kernel) rfl ?_
      refine zG_callV (idx := 241) (R := (fun a => (none, a))) (as := []) (rest := []) (n := 0) (fun a ha => c_Mod_stepOn hl ha) (by decide +kernel) ⟨ok_Mod_stepOn, by decide, by decide +kernel⟩ rfl w_388 w_389 w_390 (by decide) rfl rfl rfl (Nat.le_of_ble_eq_true rfl) fun x13 => ?_
      refine zG_forget (L' := [some (zr (some (11, 333))), none, none]) (And.intro rfl trivial) ?_
      refine zG_bind (fun y : zH => (95, [some (zr (some (11, 333))), none, none], [], y)) (zG_iter (fun s : zH => (74, [some (zr (some (11, 333))), none, none], [], s)) fun s => k_Mod_net_b74 hl) (fun y18 => ?_)
      refine zG_run t_Mod [(.aload_n 0, 0, 0), (.getfield 216, 11, 24)] (99, [some (zr (some (11, 333))), none, none], [zi (y18.1 333 24)], y18) (by decide +kernel) rfl ?_
      refine zG_if (op := .eq) (off := 26) (tgt := 125) (by decide +kernel) rfl Iff.rfl (fun c22 => ?_) (fun c22 => ?_)
      · refine zG_run t_Mod [(.aload_n 0, 0, 0)] (126, [some (zr (some (11, 333))), none, none], [zr (some (11, 333))], y18) (by decide +kernel) rfl ?_
        refine zG_callV (idx := 294) (R := (fun a => (none, a))) (as := []) (rest := []) (n := 0) (fun a ha => c_Mod_takeOver hl ha) (by decide +kernel) ⟨ok_Mod_takeOver, by decide, by decide +kernel⟩ rfl w_487 w_488 w_489 (by decide) rfl rfl rfl (Nat.le_of_ble_eq_true rfl) fun x19 => ?_
        refine zG_run t_Mod [(.iconst 0, 0, 0)] (130, [some (zr (some (11, 333))), none, none], [zi 0], x19) (by decide +kernel) rfl ?_
        exact zG_ret (r := some (zi 0)) rfl (zrd_i rfl (by decide +kernel))
      · refine zG_bind (fun y => (110, [some (zr (some (11, 333))), none, none], [], y)) (zG_run t_Mod [(.aload_n 0, 0, 0), (.aload_n 0, 0, 0), (.getfield 219, 11, 25), (.putfield 83, 11, 26)] (110, [some (zr (some (11, 333))), none, none], [], zsI y18 333 26 (y18.1 333 25)) (by decide +kernel) rfl (zG_end (L' := [some (zr (some (11, 333))), none, none]) rfl (And.intro rfl trivial))) fun h20 => ?_
        refine zG_run t_Mod [(.aload_n 0, 0, 0), (.getfield 77, 11, 15), (.iconst 0, 0, 0), (.dup2, 0, 0)] (116, [some (zr (some (11, 333))), none, none], [zi 0, zr (some (74, 348)), zi 0, zr (some (74, 348))], h20) (by decide +kernel) rfl ?_
        refine zG_aldc (v := zi (h20.1 348 0)) rfl (by decide +kernel) (by decide +kernel) rfl ?_
        refine zG_run t_Mod [(.iconst 1, 0, 0), (.iadd, 0, 0)] (119, [some (zr (some (11, 333))), none, none], [zi ((h20.1 348 0) + 1), zi 0, zr (some (74, 348))], h20) (by decide +kernel) rfl ?_
        refine zG_bind (fun y => (120, [some (zr (some (11, 333))), none, none], [], y)) (zG_astc (h' := zsI h20 348 0 ((h20.1 348 0) + 1)) rfl (by decide +kernel) (by decide +kernel) rfl (zG_end (L' := [some (zr (some (11, 333))), none, none]) rfl (And.intro rfl trivial))) fun h21 => ?_
        refine zG_run t_Mod [(.aload_n 0, 0, 0), (.getfield 216, 11, 24)] (124, [some (zr (some (11, 333))), none, none], [zi (h21.1 333 24)], h21) (by decide +kernel) rfl ?_
        exact zG_ret (r := some (zi (h21.1 333 24))) rfl (zrd_i rfl (by decide +kernel))
    · exact zG_forget (L' := [some (zr (some (11, 333))), none, none]) (And.intro rfl trivial) (k_Mod_net_j17 hl)
theorem c_Mod_net {l : Launch} {X : zX} (hl : l.stackTraces = false) {h : zH} {v1 : Int32} {x : Int32 × zH} (hx : f_Mod_net h v1 = some x) : zCt l (true, 2) 2 m_Mod_net X 0 0 [zr (some (11, 333)), zi v1] h ((fun a => (.inl (some (zi a.1)), a.2) : Int32 × zH → zF) x) :=
  zG_ct (R := fun a => (.inl (some (zi a.1)), a.2)) (x := x) ok_Mod_net hl (Nat.le_of_ble_eq_true rfl) hx (k_Mod_net hl)
def m_Mod_fault : zM := (({ cls := "ScanPackerModel", name := "fault", desc := "()I" } : Jvm.MethodName), prog_13_method_33_code, 1, (Option.some Jvm.ClassFile.FieldType.int), [], 1)
theorem ok_Mod_fault : zMok m_Mod_fault := ⟨by decide +kernel, zW_of 1791 (by decide +kernel) (by decide +kernel), zW_of 134 (by decide +kernel) (by decide +kernel), by decide, by decide +kernel, by decide +kernel⟩
set_option maxRecDepth 20000 in
theorem k_Mod_fault {l : Launch} {X : zX} (hl : l.stackTraces = false) {h : zH} : zGl l m_Mod_fault X 0 0 (f_Mod_fault h) (0, [some (zr (some (11, 333)))], [], h) (fun x => .inr ((fun a => (.inl (some (zi a.1)), a.2) : Int32 × zH → zF) x)) := by
  unfold f_Mod_fault
  refine zG_bind (fun y => (5, [some (zr (some (11, 333)))], [], y)) (zG_run t_Mod [(.aload_n 0, 0, 0), (.iconst 0, 0, 0), (.putfield 181, 11, 2)] (5, [some (zr (some (11, 333)))], [], zsI h 333 2 0) (by decide +kernel) rfl (zG_end (L' := [some (zr (some (11, 333)))]) rfl (And.intro rfl trivial))) fun h1 => ?_
  refine zG_run t_Mod [(.aload_n 0, 0, 0), (.getfield 83, 11, 26)] (9, [some (zr (some (11, 333)))], [zi (h1.1 333 26)], h1) (by decide +kernel) rfl ?_
  exact zG_ret (r := some (zi (h1.1 333 26))) rfl (zrd_i rfl (by decide +kernel))
theorem c_Mod_fault {l : Launch} {X : zX} (hl : l.stackTraces = false) {h : zH} {x : Int32 × zH} (hx : f_Mod_fault h = some x) : zCt l (true, 2) 2 m_Mod_fault X 0 0 [zr (some (11, 333))] h ((fun a => (.inl (some (zi a.1)), a.2) : Int32 × zH → zF) x) :=
  zG_ct (R := fun a => (.inl (some (zi a.1)), a.2)) (x := x) ok_Mod_fault hl (Nat.le_of_ble_eq_true rfl) hx (k_Mod_fault hl)
def m_Mod_seenMany : zM := (({ cls := "ScanPackerModel", name := "seenMany", desc := "()I" } : Jvm.MethodName), prog_13_method_52_code, 3, (Option.some Jvm.ClassFile.FieldType.int), [], 2)
theorem ok_Mod_seenMany : zMok m_Mod_seenMany := ⟨by decide +kernel, zW_of 1799 (by decide +kernel) (by decide +kernel), zW_of 134 (by decide +kernel) (by decide +kernel), by decide, by decide +kernel, by decide +kernel⟩
set_option maxRecDepth 20000 in
theorem k_Mod_seenMany_j26 {l : Launch} {X : zX} (hl : l.stackTraces = false) {h : zH} {v2 : Int32} {t0 : Int32} {t1 : Int32} : zGl l m_Mod_seenMany X 0 0 (f_Mod_seenMany_j26 h v2 t0 t1) (26, [some (zr (some (11, 333))), none, some (zi v2)], [zi t0, zi t1], h) (Sum.elim (fun s : Int32 × Int32 => .inl (4, [some (zr (some (11, 333))), some (zi s.1), some (zi s.2)], [], h)) (fun y : Int32 => .inl (34, [none, some (zi y), none], [], h))) := by
  unfold f_Mod_seenMany_j26
  refine zG_run t_Mod [(.iadd, 0, 0), (.istore_n 1, 0, 0), (.iinc 2 1, 0, 0), (.goto (-27), 0, 0)] (4, [some (zr (some (11, 333))), some (zi (t1 + t0)), some (zi (v2 + 1))], [], h) (by decide +kernel) rfl ?_
  exact zG_end (L' := [some (zr (some (11, 333))), some (zi (t1 + t0)), some (zi (v2 + 1))]) rfl (And.intro rfl (And.intro rfl (And.intro rfl trivial)))
set_option maxRecDepth 20000 in
theorem k_Mod_seenMany_b4 {l : Launch} {X : zX} (hl : l.stackTraces = false) {h : zH} {v1 : Int32} {v2 : Int32} : zGl l m_Mod_seenMany X 0 0 (f_Mod_seenMany_b4 h v1 v2) (4, [some (zr (some (11, 333))), some (zi v1), some (zi v2)], [], h) (Sum.elim (fun s : Int32 × Int32 => .inl (4, [some (zr (some (11, 333))), some (zi s.1), some (zi s.2)], [], h)) (fun y : Int32 => .inl (34, [none, some (zi y), none], [], h))) := by
  unfold f_Mod_seenMany_b4
  refine zG_run t_Mod [(.iload_n 2, 0, 0), (.aload_n 0, 0, 0)] (6, [some (zr (some (11, 333))), some (zi v1), some (zi v2)], [zr (some (11, 333)), zi v2], h) (by decide +kernel) rfl ?_
  refine zG_callV (idx := 311) (R := (fun a => (some (zi a), h))) (as := []) (rest := [zi v2]) (n := 0) (fun a ha => c_Mod_lines hl ha) (by decide +kernel) ⟨ok_Mod_lines, by decide, by decide +kernel⟩ rfl w_455 w_456 w_457 (by decide) rfl rfl rfl (Nat.le_of_ble_eq_true rfl) fun x1 => ?_
  refine zG_icmp (op := .ge) (off := 25) (tgt := 34) (by decide +kernel) rfl Iff.rfl (fun c4 => ?_) (fun c4 => ?_)
  · exact zG_end (L' := [none, some (zi v1), none]) rfl (And.intro rfl trivial)
  · refine zG_run t_Mod [(.iload_n 1, 0, 0), (.aload_n 0, 0, 0), (.iload_n 2, 0, 0)] (15, [some (zr (some (11, 333))), some (zi v1), some (zi v2)], [zi v2, zr (some (11, 333)), zi v1], h) (by decide +kernel) rfl ?_
    refine zG_callV (idx := 320) (R := (fun a => (some (zi a), h))) (as := [zi v2]) (rest := [zi v1]) (n := 1) (fun a ha => c_Mod_isSeen hl ha) (by decide +kernel) ⟨ok_Mod_isSeen, by decide, by decide +kernel⟩ rfl w_470 w_471 w_472 (by decide) rfl rfl rfl (Nat.le_of_ble_eq_true rfl) fun x2 => ?_
    refine zG_if (op := .eq) (off := 7) (tgt := 25) (by decide +kernel) rfl Iff.rfl (fun c3 => ?_) (fun c3 => ?_)
    · refine zG_run t_Mod [(.iconst 0, 0, 0)] (26, [some (zr (some (11, 333))), some (zi v1), some (zi v2)], [zi 0, zi v1], h) (by decide +kernel) rfl ?_
      exact zG_forget (L' := [some (zr (some (11, 333))), none, some (zi v2)]) (And.intro rfl (And.intro rfl trivial)) (k_Mod_seenMany_j26 hl)
    · refine zG_run t_Mod [(.iconst 1, 0, 0), (.goto 4, 0, 0)] (26, [some (zr (some (11, 333))), some (zi v1), some (zi v2)], [zi 1, zi v1], h) (by decide +kernel) rfl ?_
      exact zG_forget (L' := [some (zr (some (11, 333))), none, some (zi v2)]) (And.intro rfl (And.intro rfl trivial)) (k_Mod_seenMany_j26 hl)
set_option maxRecDepth 20000 in
theorem k_Mod_seenMany {l : Launch} {X : zX} (hl : l.stackTraces = false) {h : zH} : zGl l m_Mod_seenMany X 0 0 (f_Mod_seenMany h) (0, [some (zr (some (11, 333))), none, none], [], h) (fun x => .inr ((fun a => (.inl (some (zi a)), h) : Int32 → zF) x)) := by
  unfold f_Mod_seenMany
  refine zG_run t_Mod [(.iconst 0, 0, 0), (.istore_n 1, 0, 0), (.iconst 0, 0, 0), (.istore_n 2, 0, 0)] (4, [some (zr (some (11, 333))), some (zi 0), some (zi 0)], [], h) (by decide +kernel) rfl ?_
  refine zG_forget (L' := [some (zr (some (11, 333))), some (zi 0), some (zi 0)]) (And.intro rfl (And.intro rfl (And.intro rfl trivial))) ?_
  refine zG_bind (fun y : Int32 => (34, [none, some (zi y), none], [], h)) (zG_iter (fun s : Int32 × Int32 => (4, [some (zr (some (11, 333))), some (zi s.1), some (zi s.2)], [], h)) fun s => k_Mod_seenMany_b4 hl) (fun y6 => ?_)
  refine zG_run t_Mod [(.iload_n 1, 0, 0)] (35, [none, some (zi y6), none], [zi y6], h) (by decide +kernel) rfl ?_
  exact zG_ret (r := some (zi y6)) rfl (zrd_i rfl (by decide +kernel))
theorem c_Mod_seenMany {l : Launch} {X : zX} (hl : l.stackTraces = false) {h : zH} {x : Int32} (hx : f_Mod_seenMany h = some x) : zCt l (true, 2) 2 m_Mod_seenMany X 0 0 [zr (some (11, 333))] h ((fun a => (.inl (some (zi a)), h) : Int32 → zF) x) :=
  zG_ct (R := fun a => (.inl (some (zi a)), h)) (x := x) ok_Mod_seenMany hl (Nat.le_of_ble_eq_true rfl) hx (k_Mod_seenMany hl)
def m_Mod_lostMany : zM := (({ cls := "ScanPackerModel", name := "lostMany", desc := "()I" } : Jvm.MethodName), prog_13_method_49_code, 3, (Option.some Jvm.ClassFile.FieldType.int), [], 3)
theorem ok_Mod_lostMany : zMok m_Mod_lostMany := ⟨by decide +kernel, zW_of 1803 (by decide +kernel) (by decide +kernel), zW_of 134 (by decide +kernel) (by decide +kernel), by decide, by decide +kernel, by decide +kernel⟩
set_option maxRecDepth 20000 in
theorem k_Mod_lostMany_j27 {l : Launch} {X : zX} (hl : l.stackTraces = false) {h : zH} {v2 : Int32} {t0 : Int32} {t1 : Int32} : zGl l m_Mod_lostMany X 0 0 (f_Mod_lostMany_j27 h v2 t0 t1) (27, [some (zr (some (11, 333))), none, some (zi v2)], [zi t0, zi t1], h) (Sum.elim (fun s : Int32 × Int32 => .inl (4, [some (zr (some (11, 333))), some (zi s.1), some (zi s.2)], [], h)) (fun y : Int32 => .inl (35, [none, some (zi y), none], [], h))) := by
  unfold f_Mod_lostMany_j27
  refine zG_run t_Mod [(.iadd, 0, 0), (.istore_n 1, 0, 0), (.iinc 2 1, 0, 0), (.goto (-28), 0, 0)] (4, [some (zr (some (11, 333))), some (zi (t1 + t0)), some (zi (v2 + 1))], [], h) (by decide +kernel) rfl ?_
  exact zG_end (L' := [some (zr (some (11, 333))), some (zi (t1 + t0)), some (zi (v2 + 1))]) rfl (And.intro rfl (And.intro rfl (And.intro rfl trivial)))
set_option maxRecDepth 20000 in
theorem k_Mod_lostMany_b4 {l : Launch} {X : zX} (hl : l.stackTraces = false) {h : zH} {v1 : Int32} {v2 : Int32} : zGl l m_Mod_lostMany X 0 0 (f_Mod_lostMany_b4 h v1 v2) (4, [some (zr (some (11, 333))), some (zi v1), some (zi v2)], [], h) (Sum.elim (fun s : Int32 × Int32 => .inl (4, [some (zr (some (11, 333))), some (zi s.1), some (zi s.2)], [], h)) (fun y : Int32 => .inl (35, [none, some (zi y), none], [], h))) := by
  unfold f_Mod_lostMany_b4
  refine zG_run t_Mod [(.iload_n 2, 0, 0), (.aload_n 0, 0, 0)] (6, [some (zr (some (11, 333))), some (zi v1), some (zi v2)], [zr (some (11, 333)), zi v2], h) (by decide +kernel) rfl ?_
  refine zG_callV (idx := 332) (R := (fun a => (some (zi a), h))) (as := []) (rest := [zi v2]) (n := 0) (fun a ha => c_Mod_faults hl ha) (by decide +kernel) ⟨ok_Mod_faults, by decide, by decide +kernel⟩ rfl w_467 w_468 w_469 (by decide) rfl rfl rfl (Nat.le_of_ble_eq_true rfl) fun x1 => ?_
  refine zG_icmp (op := .ge) (off := 26) (tgt := 35) (by decide +kernel) rfl Iff.rfl (fun c4 => ?_) (fun c4 => ?_)
  · exact zG_end (L' := [none, some (zi v1), none]) rfl (And.intro rfl trivial)
  · refine zG_run t_Mod [(.iload_n 1, 0, 0), (.aload_n 0, 0, 0), (.getfield 109, 11, 34), (.iload_n 2, 0, 0)] (18, [some (zr (some (11, 333))), some (zi v1), some (zi v2)], [zi v2, zr (some (83, 357)), zi v1], h) (by decide +kernel) rfl ?_
    refine zG_ald (v := zi (h.1 357 v2.toNatClampNeg)) (n := 44) rfl (by decide +kernel) rfl rfl fun hb2 => ?_
    refine zG_if (op := .le) (off := 7) (tgt := 26) (by decide +kernel) rfl Iff.rfl (fun c3 => ?_) (fun c3 => ?_)
    · refine zG_run t_Mod [(.iconst 0, 0, 0)] (27, [some (zr (some (11, 333))), some (zi v1), some (zi v2)], [zi 0, zi v1], h) (by decide +kernel) rfl ?_
      exact zG_forget (L' := [some (zr (some (11, 333))), none, some (zi v2)]) (And.intro rfl (And.intro rfl trivial)) (k_Mod_lostMany_j27 hl)
    · refine zG_run t_Mod [(.iconst 1, 0, 0), (.goto 4, 0, 0)] (27, [some (zr (some (11, 333))), some (zi v1), some (zi v2)], [zi 1, zi v1], h) (by decide +kernel) rfl ?_
      exact zG_forget (L' := [some (zr (some (11, 333))), none, some (zi v2)]) (And.intro rfl (And.intro rfl trivial)) (k_Mod_lostMany_j27 hl)
set_option maxRecDepth 20000 in
theorem k_Mod_lostMany {l : Launch} {X : zX} (hl : l.stackTraces = false) {h : zH} : zGl l m_Mod_lostMany X 0 0 (f_Mod_lostMany h) (0, [some (zr (some (11, 333))), none, none], [], h) (fun x => .inr ((fun a => (.inl (some (zi a)), h) : Int32 → zF) x)) := by
  unfold f_Mod_lostMany
  refine zG_run t_Mod [(.iconst 0, 0, 0), (.istore_n 1, 0, 0), (.iconst 0, 0, 0), (.istore_n 2, 0, 0)] (4, [some (zr (some (11, 333))), some (zi 0), some (zi 0)], [], h) (by decide +kernel) rfl ?_
  refine zG_forget (L' := [some (zr (some (11, 333))), some (zi 0), some (zi 0)]) (And.intro rfl (And.intro rfl (And.intro rfl trivial))) ?_
  refine zG_bind (fun y : Int32 => (35, [none, some (zi y), none], [], h)) (zG_iter (fun s : Int32 × Int32 => (4, [some (zr (some (11, 333))), some (zi s.1), some (zi s.2)], [], h)) fun s => k_Mod_lostMany_b4 hl) (fun y6 => ?_)
  refine zG_run t_Mod [(.iload_n 1, 0, 0)] (36, [none, some (zi y6), none], [zi y6], h) (by decide +kernel) rfl ?_
  exact zG_ret (r := some (zi y6)) rfl (zrd_i rfl (by decide +kernel))
theorem c_Mod_lostMany {l : Launch} {X : zX} (hl : l.stackTraces = false) {h : zH} {x : Int32} (hx : f_Mod_lostMany h = some x) : zCt l (true, 2) 2 m_Mod_lostMany X 0 0 [zr (some (11, 333))] h ((fun a => (.inl (some (zi a)), h) : Int32 → zF) x) :=
  zG_ct (R := fun a => (.inl (some (zi a)), h)) (x := x) ok_Mod_lostMany hl (Nat.le_of_ble_eq_true rfl) hx (k_Mod_lostMany hl)
def m_Mod_isAlike : zM := (({ cls := "ScanPackerModel", name := "isAlike", desc := "(II)Z" } : Jvm.MethodName), prog_13_method_45_code, 5, (Option.some Jvm.ClassFile.FieldType.boolean), [], 2)
theorem ok_Mod_isAlike : zMok m_Mod_isAlike := ⟨by decide +kernel, zW_of 1815 (by decide +kernel) (by decide +kernel), zW_of 134 (by decide +kernel) (by decide +kernel), by decide, by decide +kernel, by decide +kernel⟩
set_option maxRecDepth 20000 in
theorem k_Mod_isAlike_j50 {l : Launch} {X : zX} (hl : l.stackTraces = false) {h : zH} {v1 : Int32} {v2 : Int32} {v4 : Int32} {t0 : Int32} : zGl l m_Mod_isAlike X 0 0 (f_Mod_isAlike_j50 h v1 v2 v4 t0) (50, [some (zr (some (11, 333))), some (zi v1), some (zi v2), none, some (zi v4)], [zi t0], h) (Sum.elim (fun s : Int32 × Int32 => .inl (5, [some (zr (some (11, 333))), some (zi v1), some (zi v2), some (zi s.1), some (zi s.2)], [], h)) (fun y : Int32 => .inl (57, [none, none, none, some (zi y), none], [], h))) := by
  unfold f_Mod_isAlike_j50
  refine zG_run t_Mod [(.istore_n 3, 0, 0), (.iinc 4 1, 0, 0), (.goto (-49), 0, 0)] (5, [some (zr (some (11, 333))), some (zi v1), some (zi v2), some (zi t0), some (zi (v4 + 1))], [], h) (by decide +kernel) rfl ?_
  exact zG_end (L' := [some (zr (some (11, 333))), some (zi v1), some (zi v2), some (zi t0), some (zi (v4 + 1))]) rfl (And.intro rfl (And.intro rfl (And.intro rfl (And.intro rfl (And.intro rfl trivial)))))
set_option maxRecDepth 20000 in
theorem k_Mod_isAlike_b5 {l : Launch} {X : zX} (hl : l.stackTraces = false) {h : zH} {v1 : Int32} {v2 : Int32} {v3 : Int32} {v4 : Int32} : zGl l m_Mod_isAlike X 0 0 (f_Mod_isAlike_b5 h v1 v2 v3 v4) (5, [some (zr (some (11, 333))), some (zi v1), some (zi v2), some (zi v3), some (zi v4)], [], h) (Sum.elim (fun s : Int32 × Int32 => .inl (5, [some (zr (some (11, 333))), some (zi v1), some (zi v2), some (zi s.1), some (zi s.2)], [], h)) (fun y : Int32 => .inl (57, [none, none, none, some (zi y), none], [], h))) := by
  unfold f_Mod_isAlike_b5
  refine zG_run t_Mod [(.iload 4, 0, 0), (.aload_n 0, 0, 0)] (8, [some (zr (some (11, 333))), some (zi v1), some (zi v2), some (zi v3), some (zi v4)], [zr (some (11, 333)), zi v4], h) (by decide +kernel) rfl ?_
  refine zG_callV (idx := 323) (R := (fun a => (some (zi a), h))) (as := []) (rest := [zi v4]) (n := 0) (fun a ha => c_Mod_rows hl ha) (by decide +kernel) ⟨ok_Mod_rows, by decide, by decide +kernel⟩ rfl w_449 w_450 w_451 (by decide) rfl rfl rfl (Nat.le_of_ble_eq_true rfl) fun x1 => ?_
  refine zG_icmp (op := .ge) (off := 46) (tgt := 57) (by decide +kernel) rfl Iff.rfl (fun c6 => ?_) (fun c6 => ?_)
  · exact zG_end (L' := [none, none, none, some (zi v3), none]) rfl (And.intro rfl trivial)
  · refine zG_run t_Mod [(.iload_n 3, 0, 0)] (15, [some (zr (some (11, 333))), some (zi v1), some (zi v2), some (zi v3), some (zi v4)], [zi v3], h) (by decide +kernel) rfl ?_
    refine zG_if (op := .eq) (off := 34) (tgt := 49) (by decide +kernel) rfl Iff.rfl (fun c5 => ?_) (fun c5 => ?_)
    · refine zG_run t_Mod [(.iconst 0, 0, 0)] (50, [some (zr (some (11, 333))), some (zi v1), some (zi v2), some (zi v3), some (zi v4)], [zi 0], h) (by decide +kernel) rfl ?_
      exact zG_forget (L' := [some (zr (some (11, 333))), some (zi v1), some (zi v2), none, some (zi v4)]) (And.intro rfl (And.intro rfl (And.intro rfl (And.intro rfl trivial)))) (k_Mod_isAlike_j50 hl)
    · refine zG_run t_Mod [(.aload_n 0, 0, 0), (.getfield 96, 11, 30), (.bipush 64, 0, 0), (.iload_n 1, 0, 0), (.imul, 0, 0), (.iload 4, 0, 0), (.iadd, 0, 0)] (29, [some (zr (some (11, 333))), some (zi v1), some (zi v2), some (zi v3), some (zi v4)], [zi ((64 * v1) + v4), zr (some (79, 353))], h) (by decide +kernel) rfl ?_
      refine zG_ald (v := zi (h.1 353 ((64 * v1) + v4).toNatClampNeg)) (n := 2816) rfl (by decide +kernel) rfl rfl fun hb2 => ?_
      refine zG_run t_Mod [(.aload_n 0, 0, 0), (.getfield 96, 11, 30), (.bipush 64, 0, 0), (.iload_n 2, 0, 0), (.imul, 0, 0), (.iload 4, 0, 0), (.iadd, 0, 0)] (41, [some (zr (some (11, 333))), some (zi v1), some (zi v2), some (zi v3), some (zi v4)], [zi ((64 * v2) + v4), zr (some (79, 353)), zi (h.1 353 ((64 * v1) + v4).toNatClampNeg)], h) (by decide +kernel) rfl ?_
      refine zG_ald (v := zi (h.1 353 ((64 * v2) + v4).toNatClampNeg)) (n := 2816) rfl (by decide +kernel) rfl rfl fun hb3 => ?_
      refine zG_icmp (op := .ne) (off := 7) (tgt := 49) (by decide +kernel) rfl Iff.rfl (fun c4 => ?_) (fun c4 => ?_)
      · refine zG_run t_Mod [(.iconst 0, 0, 0)] (50, [some (zr (some (11, 333))), some (zi v1), some (zi v2), some (zi v3), some (zi v4)], [zi 0], h) (by decide +kernel) rfl ?_
        exact zG_forget (L' := [some (zr (some (11, 333))), some (zi v1), some (zi v2), none, some (zi v4)]) (And.intro rfl (And.intro rfl (And.intro rfl (And.intro rfl trivial)))) (k_Mod_isAlike_j50 hl)
      · refine zG_run t_Mod [(.iconst 1, 0, 0), (.goto 4, 0, 0)] (50, [some (zr (some (11, 333))), some (zi v1), some (zi v2), some (zi v3), some (zi v4)], [zi 1], h) (by decide +kernel) rfl ?_
        exact zG_forget (L' := [some (zr (some (11, 333))), some (zi v1), some (zi v2), none, some (zi v4)]) (And.intro rfl (And.intro rfl (And.intro rfl (And.intro rfl trivial)))) (k_Mod_isAlike_j50 hl)
set_option maxRecDepth 20000 in
theorem k_Mod_isAlike {l : Launch} {X : zX} (hl : l.stackTraces = false) {h : zH} {v1 : Int32} {v2 : Int32} : zGl l m_Mod_isAlike X 0 0 (f_Mod_isAlike h v1 v2) (0, [some (zr (some (11, 333))), some (zi v1), some (zi v2), none, none], [], h) (fun x => .inr ((fun a => (.inl (some (zi a)), h) : Int32 → zF) x)) := by
  unfold f_Mod_isAlike
  refine zG_run t_Mod [(.iconst 1, 0, 0), (.istore_n 3, 0, 0), (.iconst 0, 0, 0), (.istore 4, 0, 0)] (5, [some (zr (some (11, 333))), some (zi v1), some (zi v2), some (zi 1), some (zi 0)], [], h) (by decide +kernel) rfl ?_
  refine zG_forget (L' := [some (zr (some (11, 333))), some (zi v1), some (zi v2), some (zi 1), some (zi 0)]) (And.intro rfl (And.intro rfl (And.intro rfl (And.intro rfl (And.intro rfl trivial))))) ?_
  refine zG_bind (fun y : Int32 => (57, [none, none, none, some (zi y), none], [], h)) (zG_iter (fun s : Int32 × Int32 => (5, [some (zr (some (11, 333))), some (zi v1), some (zi v2), some (zi s.1), some (zi s.2)], [], h)) fun s => k_Mod_isAlike_b5 hl) (fun y8 => ?_)
  refine zG_run t_Mod [(.iload_n 3, 0, 0)] (58, [none, none, none, some (zi y8), none], [zi y8], h) (by decide +kernel) rfl ?_
  refine zG_guard fun hb9 => ?_
  exact zG_ret (r := some (zi y8)) rfl (zrd_z rfl (by decide +kernel) hb9)
theorem c_Mod_isAlike {l : Launch} {X : zX} (hl : l.stackTraces = false) {h : zH} {v1 : Int32} {v2 : Int32} {x : Int32} (hx : f_Mod_isAlike h v1 v2 = some x) : zCt l (true, 2) 2 m_Mod_isAlike X 0 0 [zr (some (11, 333)), zi v1, zi v2] h ((fun a => (.inl (some (zi a)), h) : Int32 → zF) x) :=
  zG_ct (R := fun a => (.inl (some (zi a)), h)) (x := x) ok_Mod_isAlike hl (Nat.le_of_ble_eq_true rfl) hx (k_Mod_isAlike hl)
def m_Mod_leastAlike : zM := (({ cls := "ScanPackerModel", name := "leastAlike", desc := "(I)I" } : Jvm.MethodName), prog_13_method_46_code, 3, (Option.some Jvm.ClassFile.FieldType.int), [], 3)
theorem ok_Mod_leastAlike : zMok m_Mod_leastAlike := ⟨by decide +kernel, zW_of 1811 (by decide +kernel) (by decide +kernel), zW_of 134 (by decide +kernel) (by decide +kernel), by decide, by decide +kernel, by decide +kernel⟩
set_option maxRecDepth 20000 in
theorem k_Mod_leastAlike_b2 {l : Launch} {X : zX} (hl : l.stackTraces = false) {h : zH} {v1 : Int32} {v2 : Int32} : zGl l m_Mod_leastAlike X 0 0 (f_Mod_leastAlike_b2 h v1 v2) (2, [some (zr (some (11, 333))), some (zi v1), some (zi v2)], [], h) (Sum.elim (fun s : Int32 => .inl (2, [some (zr (some (11, 333))), some (zi v1), some (zi s)], [], h)) (fun y : Int32 => .inl (17, [none, none, some (zi y)], [], h))) := by
  unfold f_Mod_leastAlike_b2
  refine zG_run t_Mod [(.aload_n 0, 0, 0), (.iload_n 1, 0, 0), (.iload_n 2, 0, 0)] (5, [some (zr (some (11, 333))), some (zi v1), some (zi v2)], [zi v2, zi v1, zr (some (11, 333))], h) (by decide +kernel) rfl ?_
  refine zG_callV (idx := 348) (R := (fun a => (some (zi a), h))) (as := [zi v1, zi v2]) (rest := []) (n := 2) (fun a ha => c_Mod_isAlike hl ha) (by decide +kernel) ⟨ok_Mod_isAlike, by decide, by decide +kernel⟩ rfl w_496 w_497 w_498 (by decide) rfl rfl rfl (Nat.le_of_ble_eq_true rfl) fun x1 => ?_
  refine zG_if (op := .ne) (off := 9) (tgt := 17) (by decide +kernel) rfl Iff.rfl (fun c2 => ?_) (fun c2 => ?_)
  · exact zG_end (L' := [none, none, some (zi v2)]) rfl (And.intro rfl trivial)
  · refine zG_run t_Mod [(.iinc 2 1, 0, 0), (.goto (-12), 0, 0)] (2, [some (zr (some (11, 333))), some (zi v1), some (zi (v2 + 1))], [], h) (by decide +kernel) rfl ?_
    exact zG_end (L' := [some (zr (some (11, 333))), some (zi v1), some (zi (v2 + 1))]) rfl (And.intro rfl (And.intro rfl (And.intro rfl trivial)))
set_option maxRecDepth 20000 in
theorem k_Mod_leastAlike {l : Launch} {X : zX} (hl : l.stackTraces = false) {h : zH} {v1 : Int32} : zGl l m_Mod_leastAlike X 0 0 (f_Mod_leastAlike h v1) (0, [some (zr (some (11, 333))), some (zi v1), none], [], h) (fun x => .inr ((fun a => (.inl (some (zi a)), h) : Int32 → zF) x)) := by
  unfold f_Mod_leastAlike
  refine zG_run t_Mod [(.iconst 0, 0, 0), (.istore_n 2, 0, 0)] (2, [some (zr (some (11, 333))), some (zi v1), some (zi 0)], [], h) (by decide +kernel) rfl ?_
  refine zG_forget (L' := [some (zr (some (11, 333))), some (zi v1), some (zi 0)]) (And.intro rfl (And.intro rfl (And.intro rfl trivial))) ?_
  refine zG_bind (fun y : Int32 => (17, [none, none, some (zi y)], [], h)) (zG_iter (fun s : Int32 => (2, [some (zr (some (11, 333))), some (zi v1), some (zi s)], [], h)) fun s => k_Mod_leastAlike_b2 hl) (fun y4 => ?_)
  refine zG_run t_Mod [(.iload_n 2, 0, 0)] (18, [none, none, some (zi y4)], [zi y4], h) (by decide +kernel) rfl ?_
  exact zG_ret (r := some (zi y4)) rfl (zrd_i rfl (by decide +kernel))
theorem c_Mod_leastAlike {l : Launch} {X : zX} (hl : l.stackTraces = false) {h : zH} {v1 : Int32} {x : Int32} (hx : f_Mod_leastAlike h v1 = some x) : zCt l (true, 2) 2 m_Mod_leastAlike X 0 0 [zr (some (11, 333)), zi v1] h ((fun a => (.inl (some (zi a)), h) : Int32 → zF) x) :=
  zG_ct (R := fun a => (.inl (some (zi a)), h)) (x := x) ok_Mod_leastAlike hl (Nat.le_of_ble_eq_true rfl) hx (k_Mod_leastAlike hl)
def m_Mod_groupsAlike : zM := (({ cls := "ScanPackerModel", name := "groupsAlike", desc := "()I" } : Jvm.MethodName), prog_13_method_50_code, 3, (Option.some Jvm.ClassFile.FieldType.int), [], 4)
theorem ok_Mod_groupsAlike : zMok m_Mod_groupsAlike := ⟨by decide +kernel, zW_of 1807 (by decide +kernel) (by decide +kernel), zW_of 134 (by decide +kernel) (by decide +kernel), by decide, by decide +kernel, by decide +kernel⟩
set_option maxRecDepth 20000 in
theorem k_Mod_groupsAlike_j36 {l : Launch} {X : zX} (hl : l.stackTraces = false) {h : zH} {v2 : Int32} {t0 : Int32} {t1 : Int32} : zGl l m_Mod_groupsAlike X 0 0 (f_Mod_groupsAlike_j36 h v2 t0 t1) (36, [some (zr (some (11, 333))), none, some (zi v2)], [zi t0, zi t1], h) (Sum.elim (fun s : Int32 × Int32 => .inl (4, [some (zr (some (11, 333))), some (zi s.1), some (zi s.2)], [], h)) (fun y : Int32 => .inl (44, [none, some (zi y), none], [], h))) := by
  unfold f_Mod_groupsAlike_j36
  refine zG_run t_Mod [(.iadd, 0, 0), (.istore_n 1, 0, 0), (.iinc 2 1, 0, 0), (.goto (-37), 0, 0)] (4, [some (zr (some (11, 333))), some (zi (t1 + t0)), some (zi (v2 + 1))], [], h) (by decide +kernel) rfl ?_
  exact zG_end (L' := [some (zr (some (11, 333))), some (zi (t1 + t0)), some (zi (v2 + 1))]) rfl (And.intro rfl (And.intro rfl (And.intro rfl trivial)))
set_option maxRecDepth 20000 in
theorem k_Mod_groupsAlike_b4 {l : Launch} {X : zX} (hl : l.stackTraces = false) {h : zH} {v1 : Int32} {v2 : Int32} : zGl l m_Mod_groupsAlike X 0 0 (f_Mod_groupsAlike_b4 h v1 v2) (4, [some (zr (some (11, 333))), some (zi v1), some (zi v2)], [], h) (Sum.elim (fun s : Int32 × Int32 => .inl (4, [some (zr (some (11, 333))), some (zi s.1), some (zi s.2)], [], h)) (fun y : Int32 => .inl (44, [none, some (zi y), none], [], h))) := by
  unfold f_Mod_groupsAlike_b4
  refine zG_run t_Mod [(.iload_n 2, 0, 0), (.aload_n 0, 0, 0)] (6, [some (zr (some (11, 333))), some (zi v1), some (zi v2)], [zr (some (11, 333)), zi v2], h) (by decide +kernel) rfl ?_
  refine zG_callV (idx := 332) (R := (fun a => (some (zi a), h))) (as := []) (rest := [zi v2]) (n := 0) (fun a ha => c_Mod_faults hl ha) (by decide +kernel) ⟨ok_Mod_faults, by decide, by decide +kernel⟩ rfl w_467 w_468 w_469 (by decide) rfl rfl rfl (Nat.le_of_ble_eq_true rfl) fun x1 => ?_
  refine zG_icmp (op := .ge) (off := 35) (tgt := 44) (by decide +kernel) rfl Iff.rfl (fun c6 => ?_) (fun c6 => ?_)
  · exact zG_end (L' := [none, some (zi v1), none]) rfl (And.intro rfl trivial)
  · refine zG_run t_Mod [(.iload_n 1, 0, 0), (.aload_n 0, 0, 0), (.getfield 109, 11, 34), (.iload_n 2, 0, 0)] (18, [some (zr (some (11, 333))), some (zi v1), some (zi v2)], [zi v2, zr (some (83, 357)), zi v1], h) (by decide +kernel) rfl ?_
    refine zG_ald (v := zi (h.1 357 v2.toNatClampNeg)) (n := 44) rfl (by decide +kernel) rfl rfl fun hb2 => ?_
    refine zG_if (op := .ne) (off := 16) (tgt := 35) (by decide +kernel) rfl Iff.rfl (fun c5 => ?_) (fun c5 => ?_)
    · refine zG_run t_Mod [(.iconst 0, 0, 0)] (36, [some (zr (some (11, 333))), some (zi v1), some (zi v2)], [zi 0, zi v1], h) (by decide +kernel) rfl ?_
      exact zG_forget (L' := [some (zr (some (11, 333))), none, some (zi v2)]) (And.intro rfl (And.intro rfl trivial)) (k_Mod_groupsAlike_j36 hl)
    · refine zG_run t_Mod [(.aload_n 0, 0, 0), (.iload_n 2, 0, 0)] (24, [some (zr (some (11, 333))), some (zi v1), some (zi v2)], [zi v2, zr (some (11, 333)), zi v1], h) (by decide +kernel) rfl ?_
      refine zG_callV (idx := 355) (R := (fun a => (some (zi a), h))) (as := [zi v2]) (rest := [zi v1]) (n := 1) (fun a ha => c_Mod_leastAlike hl ha) (by decide +kernel) ⟨ok_Mod_leastAlike, by decide, by decide +kernel⟩ rfl w_499 w_500 w_501 (by decide) rfl rfl rfl (Nat.le_of_ble_eq_true rfl) fun x3 => ?_
      refine zG_run t_Mod [(.iload_n 2, 0, 0)] (28, [some (zr (some (11, 333))), some (zi v1), some (zi v2)], [zi v2, zi x3, zi v1], h) (by decide +kernel) rfl ?_
      refine zG_icmp (op := .ne) (off := 7) (tgt := 35) (by decide +kernel) rfl Iff.rfl (fun c4 => ?_) (fun c4 => ?_)
      · refine zG_run t_Mod [(.iconst 0, 0, 0)] (36, [some (zr (some (11, 333))), some (zi v1), some (zi v2)], [zi 0, zi v1], h) (by decide +kernel) rfl ?_
        exact zG_forget (L' := [some (zr (some (11, 333))), none, some (zi v2)]) (And.intro rfl (And.intro rfl trivial)) (k_Mod_groupsAlike_j36 hl)
      · refine zG_run t_Mod [(.iconst 1, 0, 0), (.goto 4, 0, 0)] (36, [some (zr (some (11, 333))), some (zi v1), some (zi v2)], [zi 1, zi v1], h) (by decide +kernel) rfl ?_
        exact zG_forget (L' := [some (zr (some (11, 333))), none, some (zi v2)]) (And.intro rfl (And.intro rfl trivial)) (k_Mod_groupsAlike_j36 hl)
set_option maxRecDepth 20000 in
theorem k_Mod_groupsAlike {l : Launch} {X : zX} (hl : l.stackTraces = false) {h : zH} : zGl l m_Mod_groupsAlike X 0 0 (f_Mod_groupsAlike h) (0, [some (zr (some (11, 333))), none, none], [], h) (fun x => .inr ((fun a => (.inl (some (zi a)), h) : Int32 → zF) x)) := by
  unfold f_Mod_groupsAlike
  refine zG_run t_Mod [(.iconst 0, 0, 0), (.istore_n 1, 0, 0), (.iconst 0, 0, 0), (.istore_n 2, 0, 0)] (4, [some (zr (some (11, 333))), some (zi 0), some (zi 0)], [], h) (by decide +kernel) rfl ?_
  refine zG_forget (L' := [some (zr (some (11, 333))), some (zi 0), some (zi 0)]) (And.intro rfl (And.intro rfl (And.intro rfl trivial))) ?_
  refine zG_bind (fun y : Int32 => (44, [none, some (zi y), none], [], h)) (zG_iter (fun s : Int32 × Int32 => (4, [some (zr (some (11, 333))), some (zi s.1), some (zi s.2)], [], h)) fun s => k_Mod_groupsAlike_b4 hl) (fun y8 => ?_)
  refine zG_run t_Mod [(.iload_n 1, 0, 0)] (45, [none, some (zi y8), none], [zi y8], h) (by decide +kernel) rfl ?_
  exact zG_ret (r := some (zi y8)) rfl (zrd_i rfl (by decide +kernel))
theorem c_Mod_groupsAlike {l : Launch} {X : zX} (hl : l.stackTraces = false) {h : zH} {x : Int32} (hx : f_Mod_groupsAlike h = some x) : zCt l (true, 2) 2 m_Mod_groupsAlike X 0 0 [zr (some (11, 333))] h ((fun a => (.inl (some (zi a)), h) : Int32 → zF) x) :=
  zG_ct (R := fun a => (.inl (some (zi a)), h)) (x := x) ok_Mod_groupsAlike hl (Nat.le_of_ble_eq_true rfl) hx (k_Mod_groupsAlike hl)
def m_Mod_doneMany : zM := (({ cls := "ScanPackerModel", name := "doneMany", desc := "()I" } : Jvm.MethodName), prog_13_method_51_code, 3, (Option.some Jvm.ClassFile.FieldType.int), [], 3)
theorem ok_Mod_doneMany : zMok m_Mod_doneMany := ⟨by decide +kernel, zW_of 1819 (by decide +kernel) (by decide +kernel), zW_of 134 (by decide +kernel) (by decide +kernel), by decide, by decide +kernel, by decide +kernel⟩
set_option maxRecDepth 20000 in
theorem k_Mod_doneMany_b4 {l : Launch} {X : zX} (hl : l.stackTraces = false) {h : zH} {v1 : Int32} {v2 : Int32} : zGl l m_Mod_doneMany X 0 0 (f_Mod_doneMany_b4 h v1 v2) (4, [some (zr (some (11, 333))), some (zi v1), some (zi v2)], [], h) (Sum.elim (fun s : Int32 × Int32 => .inl (4, [some (zr (some (11, 333))), some (zi s.1), some (zi s.2)], [], h)) (fun y : Int32 => .inl (30, [none, some (zi y), none], [], h))) := by
  unfold f_Mod_doneMany_b4
  refine zG_run t_Mod [(.iload_n 2, 0, 0), (.aload_n 0, 0, 0)] (6, [some (zr (some (11, 333))), some (zi v1), some (zi v2)], [zr (some (11, 333)), zi v2], h) (by decide +kernel) rfl ?_
  refine zG_callV (idx := 332) (R := (fun a => (some (zi a), h))) (as := []) (rest := [zi v2]) (n := 0) (fun a ha => c_Mod_faults hl ha) (by decide +kernel) ⟨ok_Mod_faults, by decide, by decide +kernel⟩ rfl w_467 w_468 w_469 (by decide) rfl rfl rfl (Nat.le_of_ble_eq_true rfl) fun x1 => ?_
  refine zG_icmp (op := .ge) (off := 21) (tgt := 30) (by decide +kernel) rfl Iff.rfl (fun c3 => ?_) (fun c3 => ?_)
  · exact zG_end (L' := [none, some (zi v1), none]) rfl (And.intro rfl trivial)
  · refine zG_run t_Mod [(.iload_n 1, 0, 0), (.aload_n 0, 0, 0), (.getfield 74, 11, 14), (.bipush 13, 0, 0), (.iload_n 2, 0, 0), (.iadd, 0, 0)] (21, [some (zr (some (11, 333))), some (zi v1), some (zi v2)], [zi (13 + v2), zr (some (73, 347)), zi v1], h) (by decide +kernel) rfl ?_
    refine zG_ald (v := zi (h.1 347 (13 + v2).toNatClampNeg)) (n := 57) rfl (by decide +kernel) rfl rfl fun hb2 => ?_
    refine zG_run t_Mod [(.iadd, 0, 0), (.istore_n 1, 0, 0), (.iinc 2 1, 0, 0), (.goto (-23), 0, 0)] (4, [some (zr (some (11, 333))), some (zi (v1 + (h.1 347 (13 + v2).toNatClampNeg))), some (zi (v2 + 1))], [], h) (by decide +kernel) rfl ?_
    exact zG_end (L' := [some (zr (some (11, 333))), some (zi (v1 + (h.1 347 (13 + v2).toNatClampNeg))), some (zi (v2 + 1))]) rfl (And.intro rfl (And.intro rfl (And.intro rfl trivial)))
set_option maxRecDepth 20000 in
theorem k_Mod_doneMany {l : Launch} {X : zX} (hl : l.stackTraces = false) {h : zH} : zGl l m_Mod_doneMany X 0 0 (f_Mod_doneMany h) (0, [some (zr (some (11, 333))), none, none], [], h) (fun x => .inr ((fun a => (.inl (some (zi a)), h) : Int32 → zF) x)) := by
  unfold f_Mod_doneMany
  refine zG_run t_Mod [(.iconst 0, 0, 0), (.istore_n 1, 0, 0), (.iconst 0, 0, 0), (.istore_n 2, 0, 0)] (4, [some (zr (some (11, 333))), some (zi 0), some (zi 0)], [], h) (by decide +kernel) rfl ?_
  refine zG_forget (L' := [some (zr (some (11, 333))), some (zi 0), some (zi 0)]) (And.intro rfl (And.intro rfl (And.intro rfl trivial))) ?_
  refine zG_bind (fun y : Int32 => (30, [none, some (zi y), none], [], h)) (zG_iter (fun s : Int32 × Int32 => (4, [some (zr (some (11, 333))), some (zi s.1), some (zi s.2)], [], h)) fun s => k_Mod_doneMany_b4 hl) (fun y5 => ?_)
  refine zG_run t_Mod [(.iload_n 1, 0, 0)] (31, [none, some (zi y5), none], [zi y5], h) (by decide +kernel) rfl ?_
  exact zG_ret (r := some (zi y5)) rfl (zrd_i rfl (by decide +kernel))
theorem c_Mod_doneMany {l : Launch} {X : zX} (hl : l.stackTraces = false) {h : zH} {x : Int32} (hx : f_Mod_doneMany h = some x) : zCt l (true, 2) 2 m_Mod_doneMany X 0 0 [zr (some (11, 333))] h ((fun a => (.inl (some (zi a)), h) : Int32 → zF) x) :=
  zG_ct (R := fun a => (.inl (some (zi a)), h)) (x := x) ok_Mod_doneMany hl (Nat.le_of_ble_eq_true rfl) hx (k_Mod_doneMany hl)
