/-! methods, by wip/whole/gen.py -/
def m_Mod_seenNow : zM := (({ cls := "ScanPackerModel", name := "seenNow", desc := "()I" } : Jvm.MethodName), prog_13_method_103_code, 3, (Option.some Jvm.ClassFile.FieldType.int), [], 2)
theorem ok_Mod_seenNow : zMok m_Mod_seenNow := ⟨by decide +kernel, zW_of 2035 (by decide +kernel) (by decide +kernel), zW_of 134 (by decide +kernel) (by decide +kernel), by decide, by decide +kernel, by decide +kernel⟩
set_option maxRecDepth 20000 in
theorem k_Mod_seenNow_j33 {l : Launch} {X : zX} (hl : l.stackTraces = false) {h : zH} {v2 : Int32} {t0 : Int32} {t1 : Int32} : zGl l m_Mod_seenNow X 0 0 (f_Mod_seenNow_j33 h v2 t0 t1) (33, [some (zr (some (11, 333))), none, some (zi v2)], [zi t0, zi t1], h) (Sum.elim (fun s : Int32 × Int32 => .inl (4, [some (zr (some (11, 333))), some (zi s.1), some (zi s.2)], [], h)) (fun y : Int32 => .inl (41, [none, some (zi y), none], [], h))) := by
  unfold f_Mod_seenNow_j33
  refine zG_run t_Mod [(.ior, 0, 0), (.istore_n 1, 0, 0), (.iinc 2 1, 0, 0), (.goto (-34), 0, 0)] (4, [some (zr (some (11, 333))), some (zi (t1 ||| t0)), some (zi (v2 + 1))], [], h) (by decide +kernel) rfl ?_
  exact zG_end (L' := [some (zr (some (11, 333))), some (zi (t1 ||| t0)), some (zi (v2 + 1))]) rfl (And.intro rfl (And.intro rfl (And.intro rfl trivial)))
set_option maxRecDepth 20000 in
theorem k_Mod_seenNow_b4 {l : Launch} {X : zX} (hl : l.stackTraces = false) {h : zH} {v1 : Int32} {v2 : Int32} : zGl l m_Mod_seenNow X 0 0 (f_Mod_seenNow_b4 h v1 v2) (4, [some (zr (some (11, 333))), some (zi v1), some (zi v2)], [], h) (Sum.elim (fun s : Int32 × Int32 => .inl (4, [some (zr (some (11, 333))), some (zi s.1), some (zi s.2)], [], h)) (fun y : Int32 => .inl (41, [none, some (zi y), none], [], h))) := by
  unfold f_Mod_seenNow_b4
  refine zG_run t_Mod [(.iload_n 2, 0, 0), (.aload_n 0, 0, 0)] (6, [some (zr (some (11, 333))), some (zi v1), some (zi v2)], [zr (some (11, 333)), zi v2], h) (by decide +kernel) rfl ?_
  refine zG_callV (idx := 311) (R := (fun a => (some (zi a), h))) (as := []) (rest := [zi v2]) (n := 0) (fun a ha => c_Mod_lines hl ha) (by decide +kernel) ⟨ok_Mod_lines, by decide, by decide +kernel⟩ rfl w_455 w_456 w_457 (by decide) rfl rfl rfl (Nat.le_of_ble_eq_true rfl) fun x1 => ?_
  refine zG_icmp (op := .ge) (off := 32) (tgt := 41) (by decide +kernel) rfl Iff.rfl (fun c5 => ?_) (fun c5 => ?_)
  · exact zG_end (L' := [none, some (zi v1), none]) rfl (And.intro rfl trivial)
  · refine zG_run t_Mod [(.iload_n 1, 0, 0), (.aload_n 0, 0, 0), (.iload_n 2, 0, 0)] (15, [some (zr (some (11, 333))), some (zi v1), some (zi v2)], [zi v2, zr (some (11, 333)), zi v1], h) (by decide +kernel) rfl ?_
    refine zG_callV (idx := 320) (R := (fun a => (some (zi a), h))) (as := [zi v2]) (rest := [zi v1]) (n := 1) (fun a ha => c_Mod_isSeen hl ha) (by decide +kernel) ⟨ok_Mod_isSeen, by decide, by decide +kernel⟩ rfl w_470 w_471 w_472 (by decide) rfl rfl rfl (Nat.le_of_ble_eq_true rfl) fun x2 => ?_
    refine zG_if (op := .eq) (off := 14) (tgt := 32) (by decide +kernel) rfl Iff.rfl (fun c4 => ?_) (fun c4 => ?_)
    · refine zG_run t_Mod [(.iconst 0, 0, 0)] (33, [some (zr (some (11, 333))), some (zi v1), some (zi v2)], [zi 0, zi v1], h) (by decide +kernel) rfl ?_
      exact zG_forget (L' := [some (zr (some (11, 333))), none, some (zi v2)]) (And.intro rfl (And.intro rfl trivial)) (k_Mod_seenNow_j33 hl)
    · refine zG_run t_Mod [(.aload_n 0, 0, 0), (.getfield 90, 11, 28), (.iload_n 2, 0, 0)] (26, [some (zr (some (11, 333))), some (zi v1), some (zi v2)], [zi v2, zr (some (77, 351)), zi v1], h) (by decide +kernel) rfl ?_
      refine zG_ald (v := zi (h.1 351 v2.toNatClampNeg)) (n := 22) rfl (by decide +kernel) rfl rfl fun hb3 => ?_
      refine zG_run t_Mod [(.iload_n 2, 0, 0), (.ishl, 0, 0), (.goto 4, 0, 0)] (33, [some (zr (some (11, 333))), some (zi v1), some (zi v2)], [zi (zshl (h.1 351 v2.toNatClampNeg) v2), zi v1], h) (by decide +kernel) rfl ?_
      exact zG_forget (L' := [some (zr (some (11, 333))), none, some (zi v2)]) (And.intro rfl (And.intro rfl trivial)) (k_Mod_seenNow_j33 hl)
set_option maxRecDepth 20000 in
theorem k_Mod_seenNow {l : Launch} {X : zX} (hl : l.stackTraces = false) {h : zH} : zGl l m_Mod_seenNow X 0 0 (f_Mod_seenNow h) (0, [some (zr (some (11, 333))), none, none], [], h) (fun x => .inr ((fun a => (.inl (some (zi a)), h) : Int32 → zF) x)) := by
  unfold f_Mod_seenNow
  refine zG_run t_Mod [(.iconst 0, 0, 0), (.istore_n 1, 0, 0), (.iconst 0, 0, 0), (.istore_n 2, 0, 0)] (4, [some (zr (some (11, 333))), some (zi 0), some (zi 0)], [], h) (by decide +kernel) rfl ?_
  refine zG_forget (L' := [some (zr (some (11, 333))), some (zi 0), some (zi 0)]) (And.intro rfl (And.intro rfl (And.intro rfl trivial))) ?_
  refine zG_bind (fun y : Int32 => (41, [none, some (zi y), none], [], h)) (zG_iter (fun s : Int32 × Int32 => (4, [some (zr (some (11, 333))), some (zi s.1), some (zi s.2)], [], h)) fun s => k_Mod_seenNow_b4 hl) (fun y7 => ?_)
  refine zG_run t_Mod [(.iload_n 1, 0, 0)] (42, [none, some (zi y7), none], [zi y7], h) (by decide +kernel) rfl ?_
  exact zG_ret (r := some (zi y7)) rfl (zrd_i rfl (by decide +kernel))
theorem c_Mod_seenNow {l : Launch} {X : zX} (hl : l.stackTraces = false) {h : zH} {x : Int32} (hx : f_Mod_seenNow h = some x) : zCt l (true, 2) 2 m_Mod_seenNow X 0 0 [zr (some (11, 333))] h ((fun a => (.inl (some (zi a)), h) : Int32 → zF) x) :=
  zG_ct (R := fun a => (.inl (some (zi a)), h)) (x := x) ok_Mod_seenNow hl (Nat.le_of_ble_eq_true rfl) hx (k_Mod_seenNow hl)
def m_Mod_unlikeBy : zM := (({ cls := "ScanPackerModel", name := "unlikeBy", desc := "(I)I" } : Jvm.MethodName), prog_13_method_104_code, 7, (Option.some Jvm.ClassFile.FieldType.int), [], 3)
theorem ok_Mod_unlikeBy : zMok m_Mod_unlikeBy := ⟨by decide +kernel, zW_of 2031 (by decide +kernel) (by decide +kernel), zW_of 134 (by decide +kernel) (by decide +kernel), by decide, by decide +kernel, by decide +kernel⟩
set_option maxRecDepth 20000 in
theorem k_Mod_unlikeBy_j76 {l : Launch} {X : zX} (hl : l.stackTraces = false) {h : zH} {v2 : Int32} {v3 : Int32} {v4 : Int32} {v6 : Int32} {t0 : Int32} : zGl l m_Mod_unlikeBy X 0 0 (f_Mod_unlikeBy_j76 h v2 v3 v4 v6 t0) (76, [some (zr (some (11, 333))), none, some (zi v2), some (zi v3), some (zi v4), none, some (zi v6)], [zi t0], h) (Sum.elim (fun s : Int32 × Int32 => .inl (48, [some (zr (some (11, 333))), none, some (zi v2), some (zi v3), some (zi v4), some (zi s.1), some (zi s.2)], [], h)) (fun y : Int32 => .inl (84, [some (zr (some (11, 333))), none, some (zi v2), some (zi v3), some (zi v4), some (zi y), none], [], h))) := by
  unfold f_Mod_unlikeBy_j76
  refine zG_run t_Mod [(.istore 5, 0, 0), (.iinc 6 1, 0, 0), (.goto (-33), 0, 0)] (48, [some (zr (some (11, 333))), none, some (zi v2), some (zi v3), some (zi v4), some (zi t0), some (zi (v6 + 1))], [], h) (by decide +kernel) rfl ?_
  exact zG_end (L' := [some (zr (some (11, 333))), none, some (zi v2), some (zi v3), some (zi v4), some (zi t0), some (zi (v6 + 1))]) rfl (And.intro rfl (And.intro rfl (And.intro rfl (And.intro rfl (And.intro rfl (And.intro rfl trivial))))))
set_option maxRecDepth 20000 in
theorem k_Mod_unlikeBy_b48 {l : Launch} {X : zX} (hl : l.stackTraces = false) {h : zH} {v2 : Int32} {v3 : Int32} {v4 : Int32} {v5 : Int32} {v6 : Int32} : zGl l m_Mod_unlikeBy X 0 0 (f_Mod_unlikeBy_b48 h v2 v3 v4 v5 v6) (48, [some (zr (some (11, 333))), none, some (zi v2), some (zi v3), some (zi v4), some (zi v5), some (zi v6)], [], h) (Sum.elim (fun s : Int32 × Int32 => .inl (48, [some (zr (some (11, 333))), none, some (zi v2), some (zi v3), some (zi v4), some (zi s.1), some (zi s.2)], [], h)) (fun y : Int32 => .inl (84, [some (zr (some (11, 333))), none, some (zi v2), some (zi v3), some (zi v4), some (zi y), none], [], h))) := by
  unfold f_Mod_unlikeBy_b48
  refine zG_run t_Mod [(.iload 6, 0, 0), (.iload_n 2, 0, 0)] (51, [some (zr (some (11, 333))), none, some (zi v2), some (zi v3), some (zi v4), some (zi v5), some (zi v6)], [zi v2, zi v6], h) (by decide +kernel) rfl ?_
  refine zG_icmp (op := .ge) (off := 33) (tgt := 84) (by decide +kernel) rfl Iff.rfl (fun c9 => ?_) (fun c9 => ?_)
  · exact zG_end (L' := [some (zr (some (11, 333))), none, some (zi v2), some (zi v3), some (zi v4), some (zi v5), none]) rfl (And.intro rfl (And.intro rfl (And.intro rfl (And.intro rfl (And.intro rfl trivial)))))
  · refine zG_run t_Mod [(.iload 5, 0, 0)] (56, [some (zr (some (11, 333))), none, some (zi v2), some (zi v3), some (zi v4), some (zi v5), some (zi v6)], [zi v5], h) (by decide +kernel) rfl ?_
    refine zG_if (op := .eq) (off := 19) (tgt := 75) (by decide +kernel) rfl Iff.rfl (fun c8 => ?_) (fun c8 => ?_)
    · refine zG_run t_Mod [(.iconst 0, 0, 0)] (76, [some (zr (some (11, 333))), none, some (zi v2), some (zi v3), some (zi v4), some (zi v5), some (zi v6)], [zi 0], h) (by decide +kernel) rfl ?_
      exact zG_forget (L' := [some (zr (some (11, 333))), none, some (zi v2), some (zi v3), some (zi v4), none, some (zi v6)]) (And.intro rfl (And.intro rfl (And.intro rfl (And.intro rfl (And.intro rfl trivial))))) (k_Mod_unlikeBy_j76 hl)
    · refine zG_run t_Mod [(.aload_n 0, 0, 0), (.getfield 151, 11, 51), (.iload 6, 0, 0)] (65, [some (zr (some (11, 333))), none, some (zi v2), some (zi v3), some (zi v4), some (zi v5), some (zi v6)], [zi v6, zr (some (97, 371))], h) (by decide +kernel) rfl ?_
      refine zG_ald (v := zi (h.1 371 v6.toNatClampNeg)) (n := 45) rfl (by decide +kernel) rfl rfl fun hb6 => ?_
      refine zG_run t_Mod [(.iload 4, 0, 0)] (68, [some (zr (some (11, 333))), none, some (zi v2), some (zi v3), some (zi v4), some (zi v5), some (zi v6)], [zi v4, zi (h.1 371 v6.toNatClampNeg)], h) (by decide +kernel) rfl ?_
      refine zG_icmp (op := .eq) (off := 7) (tgt := 75) (by decide +kernel) rfl Iff.rfl (fun c7 => ?_) (fun c7 => ?_)
      · refine zG_run t_Mod [(.iconst 0, 0, 0)] (76, [some (zr (some (11, 333))), none, some (zi v2), some (zi v3), some (zi v4), some (zi v5), some (zi v6)], [zi 0], h) (by decide +kernel) rfl ?_
        exact zG_forget (L' := [some (zr (some (11, 333))), none, some (zi v2), some (zi v3), some (zi v4), none, some (zi v6)]) (And.intro rfl (And.intro rfl (And.intro rfl (And.intro rfl (And.intro rfl trivial))))) (k_Mod_unlikeBy_j76 hl)
      · refine zG_run t_Mod [(.iconst 1, 0, 0), (.goto 4, 0, 0)] (76, [some (zr (some (11, 333))), none, some (zi v2), some (zi v3), some (zi v4), some (zi v5), some (zi v6)], [zi 1], h) (by decide +kernel) rfl ?_
        exact zG_forget (L' := [some (zr (some (11, 333))), none, some (zi v2), some (zi v3), some (zi v4), none, some (zi v6)]) (And.intro rfl (And.intro rfl (And.intro rfl (And.intro rfl (And.intro rfl trivial))))) (k_Mod_unlikeBy_j76 hl)
set_option maxRecDepth 20000 in
theorem k_Mod_unlikeBy_b9 {l : Launch} {X : zX} (hl : l.stackTraces = false) {h : zH} {v2 : Int32} {v3 : Int32} : zGl l m_Mod_unlikeBy X 0 0 (f_Mod_unlikeBy_b9 h v2 v3) (9, [some (zr (some (11, 333))), none, some (zi v2), some (zi v3), none, none, none], [], h) (Sum.elim (fun s : Int32 × Int32 × zH => .inl (9, [some (zr (some (11, 333))), none, some (zi s.1), some (zi s.2.1), none, none, none], [], s.2.2)) (fun y : Int32 × zH => .inl (109, [none, none, some (zi y.1), none, none, none, none], [], y.2))) := by
  unfold f_Mod_unlikeBy_b9
  refine zG_run t_Mod [(.iload_n 3, 0, 0), (.aload_n 0, 0, 0)] (11, [some (zr (some (11, 333))), none, some (zi v2), some (zi v3), none, none, none], [zr (some (11, 333)), zi v3], h) (by decide +kernel) rfl ?_
  refine zG_callV (idx := 332) (R := (fun a => (some (zi a), h))) (as := []) (rest := [zi v3]) (n := 0) (fun a ha => c_Mod_faults hl ha) (by decide +kernel) ⟨ok_Mod_faults, by decide, by decide +kernel⟩ rfl w_467 w_468 w_469 (by decide) rfl rfl rfl (Nat.le_of_ble_eq_true rfl) fun x2 => ?_
  refine zG_icmp (op := .ge) (off := 95) (tgt := 109) (by decide +kernel) rfl Iff.rfl (fun c16 => ?_) (fun c16 => ?_)
  · exact zG_end (L' := [none, none, some (zi v2), none, none, none, none]) rfl (And.intro rfl trivial)
  · refine zG_run t_Mod [(.aload_n 0, 0, 0), (.getfield 154, 11, 52), (.iload_n 3, 0, 0), (.iconst 1, 0, 0), (.iadd, 0, 0)] (24, [some (zr (some (11, 333))), none, some (zi v2), some (zi v3), none, none, none], [zi (v3 + 1), zr (some (98, 372))], h) (by decide +kernel) rfl ?_
    refine zG_ald (v := zi (h.1 372 (v3 + 1).toNatClampNeg)) (n := 45) rfl (by decide +kernel) rfl rfl fun hb3 => ?_
    refine zG_if (op := .ne) (off := 6) (tgt := 31) (by decide +kernel) rfl Iff.rfl (fun c15 => ?_) (fun c15 => ?_)
    · refine zG_run t_Mod [(.aload_n 0, 0, 0), (.iload_n 3, 0, 0)] (33, [some (zr (some (11, 333))), none, some (zi v2), some (zi v3), none, none, none], [zi v3, zr (some (11, 333))], h) (by decide +kernel) rfl ?_
      refine zG_callV (idx := 317) (R := (fun a => (none, a))) (as := [zi v3]) (rest := []) (n := 1) (fun a ha => c_Mod_tellLines hl ha) (by decide +kernel) ⟨ok_Mod_tellLines, by decide, by decide +kernel⟩ rfl w_461 w_462 w_463 (by decide) rfl rfl rfl (Nat.le_of_ble_eq_true rfl) fun x4 => ?_
      refine zG_run t_Mod [(.aload_n 0, 0, 0)] (37, [some (zr (some (11, 333))), none, some (zi v2), some (zi v3), none, none, none], [zr (some (11, 333))], x4) (by decide +kernel) rfl ?_
      refine zG_callV (idx := 464) (R := (fun a => (some (zi a), x4))) (as := []) (rest := []) (n := 0) (fun a ha => c_Mod_seenNow hl ha) (by decide +kernel) ⟨ok_Mod_seenNow, by decide, by decide +kernel⟩ rfl w_589 w_590 w_591 (by decide) rfl rfl rfl (Nat.le_of_ble_eq_true rfl) fun x5 => ?_
      refine zG_run t_Mod [(.istore 4, 0, 0), (.iconst 1, 0, 0), (.istore 5, 0, 0), (.iconst 0, 0, 0), (.istore 6, 0, 0)] (48, [some (zr (some (11, 333))), none, some (zi v2), some (zi v3), some (zi x5), some (zi 1), some (zi 0)], [], x4) (by decide +kernel) rfl ?_
      refine zG_forget (L' := [some (zr (some (11, 333))), none, some (zi v2), some (zi v3), some (zi x5), some (zi 1), some (zi 0)]) (And.intro rfl (And.intro rfl (And.intro rfl (And.intro rfl (And.intro rfl (And.intro rfl trivial)))))) ?_
      refine zG_bind (fun y : Int32 => (84, [some (zr (some (11, 333))), none, some (zi v2), some (zi v3), some (zi x5), some (zi y), none], [], x4)) (zG_iter (fun s : Int32 × Int32 => (48, [some (zr (some (11, 333))), none, some (zi v2), some (zi v3), some (zi x5), some (zi s.1), some (zi s.2)], [], x4)) fun s => k_Mod_unlikeBy_b48 hl) (fun y11 => ?_)
      refine zG_run t_Mod [(.iload 5, 0, 0)] (86, [some (zr (some (11, 333))), none, some (zi v2), some (zi v3), some (zi x5), some (zi y11), none], [zi y11], x4) (by decide +kernel) rfl ?_
      refine zG_if (op := .ne) (off := 6) (tgt := 92) (by decide +kernel) rfl Iff.rfl (fun c14 => ?_) (fun c14 => ?_)
      · refine zG_run t_Mod [(.aload_n 0, 0, 0), (.getfield 151, 11, 51), (.iload_n 2, 0, 0), (.iload 4, 0, 0)] (99, [some (zr (some (11, 333))), none, some (zi v2), some (zi v3), some (zi x5), some (zi y11), none], [zi x5, zi v2, zr (some (97, 371))], x4) (by decide +kernel) rfl ?_
        refine zG_guard fun hb13 => ?_
        refine zG_bind (fun y => (100, [some (zr (some (11, 333))), none, some (zi v2), some (zi v3), some (zi x5), some (zi y11), none], [], y)) (zG_astc (h' := zsI x4 371 v2.toNatClampNeg x5) rfl (by decide +kernel) hb13 rfl (zG_end (L' := [some (zr (some (11, 333))), none, some (zi v2), some (zi v3), some (zi x5), some (zi y11), none]) rfl (And.intro rfl (And.intro rfl (And.intro rfl (And.intro rfl (And.intro rfl trivial))))))) fun h12 => ?_
        refine zG_run t_Mod [(.iinc 2 1, 0, 0), (.iinc 3 1, 0, 0), (.goto (-97), 0, 0)] (9, [some (zr (some (11, 333))), none, some (zi (v2 + 1)), some (zi (v3 + 1)), some (zi x5), some (zi y11), none], [], h12) (by decide +kernel) rfl ?_
        exact zG_end (L' := [some (zr (some (11, 333))), none, some (zi (v2 + 1)), some (zi (v3 + 1)), none, none, none]) rfl (And.intro rfl (And.intro rfl (And.intro rfl trivial)))
      · refine zG_run t_Mod [(.goto 14, 0, 0), (.iinc 3 1, 0, 0), (.goto (-97), 0, 0)] (9, [some (zr (some (11, 333))), none, some (zi v2), some (zi (v3 + 1)), some (zi x5), some (zi y11), none], [], x4) (by decide +kernel) rfl ?_
        exact zG_end (L' := [some (zr (some (11, 333))), none, some (zi v2), some (zi (v3 + 1)), none, none, none]) rfl (And.intro rfl (And.intro rfl (And.intro rfl trivial)))
    · refine zG_run t_Mod [(.goto 75, 0, 0), (.iinc 3 1, 0, 0), (.goto (-97), 0, 0)] (9, [some (zr (some (11, 333))), none, some (zi v2), some (zi (v3 + 1)), none, none, none], [], h) (by decide +kernel) rfl ?_
      exact zG_end (L' := [some (zr (some (11, 333))), none, some (zi v2), some (zi (v3 + 1)), none, none, none]) rfl (And.intro rfl (And.intro rfl (And.intro rfl trivial)))
set_option maxRecDepth 20000 in
theorem k_Mod_unlikeBy {l : Launch} {X : zX} (hl : l.stackTraces = false) {h : zH} {v1 : Int32} : zGl l m_Mod_unlikeBy X 0 0 (f_Mod_unlikeBy h v1) (0, [some (zr (some (11, 333))), some (zi v1), none, none, none, none, none], [], h) (fun x => .inr ((fun a => (.inl (some (zi a.1)), a.2) : Int32 × zH → zF) x)) := by
  unfold f_Mod_unlikeBy
  refine zG_run t_Mod [(.iconst 0, 0, 0), (.istore_n 2, 0, 0), (.aload_n 0, 0, 0), (.iload_n 1, 0, 0)] (4, [some (zr (some (11, 333))), some (zi v1), some (zi 0), none, none, none, none], [zi v1, zr (some (11, 333))], h) (by decide +kernel) rfl ?_
  refine zG_callV (idx := 326) (R := (fun a => (none, a))) (as := [zi v1]) (rest := []) (n := 1) (fun a ha => c_Mod_putRow hl ha) (by decide +kernel) ⟨ok_Mod_putRow, by decide, by decide +kernel⟩ rfl w_452 w_453 w_454 (by decide) rfl rfl rfl (Nat.le_of_ble_eq_true rfl) fun x1 => ?_
  refine zG_run t_Mod [(.iconst (-1), 0, 0), (.istore_n 3, 0, 0)] (9, [some (zr (some (11, 333))), some (zi v1), some (zi 0), some (zi (-1)), none, none, none], [], x1) (by decide +kernel) rfl ?_
  refine zG_forget (L' := [some (zr (some (11, 333))), none, some (zi 0), some (zi (-1)), none, none, none]) (And.intro rfl (And.intro rfl (And.intro rfl trivial))) ?_
  refine zG_bind (fun y : Int32 × zH => (109, [none, none, some (zi y.1), none, none, none, none], [], y.2)) (zG_iter (fun s : Int32 × Int32 × zH => (9, [some (zr (some (11, 333))), none, some (zi s.1), some (zi s.2.1), none, none, none], [], s.2.2)) fun s => k_Mod_unlikeBy_b9 hl) (fun y18 => ?_)
  refine zG_run t_Mod [(.iload_n 2, 0, 0)] (110, [none, none, some (zi y18.1), none, none, none, none], [zi y18.1], y18.2) (by decide +kernel) rfl ?_
  exact zG_ret (r := some (zi y18.1)) rfl (zrd_i rfl (by decide +kernel))
theorem c_Mod_unlikeBy {l : Launch} {X : zX} (hl : l.stackTraces = false) {h : zH} {v1 : Int32} {x : Int32 × zH} (hx : f_Mod_unlikeBy h v1 = some x) : zCt l (true, 2) 2 m_Mod_unlikeBy X 0 0 [zr (some (11, 333)), zi v1] h ((fun a => (.inl (some (zi a.1)), a.2) : Int32 × zH → zF) x) :=
  zG_ct (R := fun a => (.inl (some (zi a.1)), a.2)) (x := x) ok_Mod_unlikeBy hl (Nat.le_of_ble_eq_true rfl) hx (k_Mod_unlikeBy hl)
def m_Mod_look : zM := (({ cls := "ScanPackerModel", name := "look", desc := "(I)I" } : Jvm.MethodName), prog_13_method_105_code, 6, (Option.some Jvm.ClassFile.FieldType.int), [], 4)
theorem ok_Mod_look : zMok m_Mod_look := ⟨by decide +kernel, zW_of 2027 (by decide +kernel) (by decide +kernel), zW_of 134 (by decide +kernel) (by decide +kernel), by decide, by decide +kernel, by decide +kernel⟩
set_option maxRecDepth 20000 in
theorem k_Mod_look_b22 {l : Launch} {X : zX} (hl : l.stackTraces = false) {h : zH} {v1 : Int32} {v2 : Int32} : zGl l m_Mod_look X 0 0 (f_Mod_look_b22 h v1 v2) (22, [some (zr (some (11, 333))), some (zi v1), some (zi v2), none, none, none], [], h) (Sum.elim (fun s : Int32 × zH => .inl (22, [some (zr (some (11, 333))), some (zi v1), some (zi s.1), none, none, none], [], s.2)) (fun y : zH => .inl (49, [some (zr (some (11, 333))), some (zi v1), none, none, none, none], [], y))) := by
  unfold f_Mod_look_b22
  refine zG_run t_Mod [(.iload_n 2, 0, 0), (.aload_n 0, 0, 0)] (24, [some (zr (some (11, 333))), some (zi v1), some (zi v2), none, none, none], [zr (some (11, 333)), zi v2], h) (by decide +kernel) rfl ?_
  refine zG_callV (idx := 332) (R := (fun a => (some (zi a), h))) (as := []) (rest := [zi v2]) (n := 0) (fun a ha => c_Mod_faults hl ha) (by decide +kernel) ⟨ok_Mod_faults, by decide, by decide +kernel⟩ rfl w_467 w_468 w_469 (by decide) rfl rfl rfl (Nat.le_of_ble_eq_true rfl) fun x3 => ?_
  refine zG_icmp (op := .ge) (off := 22) (tgt := 49) (by decide +kernel) rfl Iff.rfl (fun c7 => ?_) (fun c7 => ?_)
  · exact zG_end (L' := [some (zr (some (11, 333))), some (zi v1), none, none, none, none]) rfl (And.intro rfl (And.intro rfl trivial))
  · refine zG_run t_Mod [(.aload_n 0, 0, 0), (.getfield 154, 11, 52), (.iload_n 2, 0, 0), (.iconst 1, 0, 0), (.iadd, 0, 0), (.aload_n 0, 0, 0), (.iload_n 2, 0, 0)] (39, [some (zr (some (11, 333))), some (zi v1), some (zi v2), none, none, none], [zi v2, zr (some (11, 333)), zi (v2 + 1), zr (some (98, 372))], h) (by decide +kernel) rfl ?_
    refine zG_callV (idx := 461) (R := (fun a => (some (zi a.1), a.2))) (as := [zi v2]) (rest := [zi (v2 + 1), zr (some (98, 372))]) (n := 1) (fun a ha => c_Mod_doesFit hl ha) (by decide +kernel) ⟨ok_Mod_doesFit, by decide, by decide +kernel⟩ rfl w_586 w_587 w_588 (by decide) rfl rfl rfl (Nat.le_of_ble_eq_true rfl) fun x4 => ?_
    refine zG_guard fun hb6 => ?_
    refine zG_bind (fun y => (43, [some (zr (some (11, 333))), some (zi v1), some (zi v2), none, none, none], [], y)) (zG_astc (h' := zsI x4.2 372 (v2 + 1).toNatClampNeg (x4.1 &&& 1)) rfl (by decide +kernel) hb6 rfl (zG_end (L' := [some (zr (some (11, 333))), some (zi v1), some (zi v2), none, none, none]) rfl (And.intro rfl (And.intro rfl (And.intro rfl trivial))))) fun h5 => ?_
    refine zG_run t_Mod [(.iinc 2 1, 0, 0), (.goto (-24), 0, 0)] (22, [some (zr (some (11, 333))), some (zi v1), some (zi (v2 + 1)), none, none, none], [], h5) (by decide +kernel) rfl ?_
    exact zG_end (L' := [some (zr (some (11, 333))), some (zi v1), some (zi (v2 + 1)), none, none, none]) rfl (And.intro rfl (And.intro rfl (And.intro rfl trivial)))
set_option maxRecDepth 20000 in
theorem k_Mod_look_b56 {l : Launch} {X : zX} (hl : l.stackTraces = false) {h : zH} {v1 : Int32} {v2 : Int32} {v3 : Int32} {v4 : Int32} : zGl l m_Mod_look X 0 0 (f_Mod_look_b56 h v1 v2 v3 v4) (56, [some (zr (some (11, 333))), some (zi v1), some (zi v2), some (zi v3), some (zi v4), none], [], h) (Sum.elim (fun s : Int32 × Int32 × Int32 × zH => .inl (56, [some (zr (some (11, 333))), some (zi v1), some (zi s.1), some (zi s.2.1), some (zi s.2.2.1), none], [], s.2.2.2)) (fun y : Int32 × Int32 × zH => .inl (94, [none, some (zi v1), some (zi y.1), some (zi y.2.1), none, none], [], y.2.2))) := by
  unfold f_Mod_look_b56
  refine zG_run t_Mod [(.iload 4, 0, 0), (.aload_n 0, 0, 0)] (59, [some (zr (some (11, 333))), some (zi v1), some (zi v2), some (zi v3), some (zi v4), none], [zr (some (11, 333)), zi v4], h) (by decide +kernel) rfl ?_
  refine zG_callV (idx := 323) (R := (fun a => (some (zi a), h))) (as := []) (rest := [zi v4]) (n := 0) (fun a ha => c_Mod_rows hl ha) (by decide +kernel) ⟨ok_Mod_rows, by decide, by decide +kernel⟩ rfl w_449 w_450 w_451 (by decide) rfl rfl rfl (Nat.le_of_ble_eq_true rfl) fun x10 => ?_
  refine zG_icmp (op := .ge) (off := 32) (tgt := 94) (by decide +kernel) rfl Iff.rfl (fun c13 => ?_) (fun c13 => ?_)
  · exact zG_end (L' := [none, some (zi v1), some (zi v2), some (zi v3), none, none]) rfl (And.intro rfl (And.intro rfl (And.intro rfl trivial)))
  · refine zG_run t_Mod [(.aload_n 0, 0, 0), (.iload 4, 0, 0)] (68, [some (zr (some (11, 333))), some (zi v1), some (zi v2), some (zi v3), some (zi v4), none], [zi v4, zr (some (11, 333))], h) (by decide +kernel) rfl ?_
    refine zG_callV (idx := 467) (R := (fun a => (some (zi a.1), a.2))) (as := [zi v4]) (rest := []) (n := 1) (fun a ha => c_Mod_unlikeBy hl ha) (by decide +kernel) ⟨ok_Mod_unlikeBy, by decide, by decide +kernel⟩ rfl w_592 w_593 w_594 (by decide) rfl rfl rfl (Nat.le_of_ble_eq_true rfl) fun x11 => ?_
    refine zG_run t_Mod [(.istore 5, 0, 0), (.iload 5, 0, 0), (.iload_n 3, 0, 0)] (76, [some (zr (some (11, 333))), some (zi v1), some (zi v2), some (zi v3), some (zi v4), some (zi x11.1)], [zi v3, zi x11.1], x11.2) (by decide +kernel) rfl ?_
    refine zG_icmp (op := .gt) (off := 6) (tgt := 82) (by decide +kernel) rfl Iff.rfl (fun c12 => ?_) (fun c12 => ?_)
    · refine zG_run t_Mod [(.iload 4, 0, 0), (.istore_n 2, 0, 0), (.iload 5, 0, 0), (.istore_n 3, 0, 0), (.iinc 4 1, 0, 0), (.goto (-35), 0, 0)] (56, [some (zr (some (11, 333))), some (zi v1), some (zi v4), some (zi x11.1), some (zi (v4 + 1)), some (zi x11.1)], [], x11.2) (by decide +kernel) rfl ?_
      exact zG_end (L' := [some (zr (some (11, 333))), some (zi v1), some (zi v4), some (zi x11.1), some (zi (v4 + 1)), none]) rfl (And.intro rfl (And.intro rfl (And.intro rfl (And.intro rfl (And.intro rfl trivial)))))
    · refine zG_run t_Mod [(.goto 9, 0, 0), (.iinc 4 1, 0, 0), (.goto (-35), 0, 0)] (56, [some (zr (some (11, 333))), some (zi v1), some (zi v2), some (zi v3), some (zi (v4 + 1)), some (zi x11.1)], [], x11.2) (by decide +kernel) rfl ?_
      exact zG_end (L' := [some (zr (some (11, 333))), some (zi v1), some (zi v2), some (zi v3), some (zi (v4 + 1)), none]) rfl (And.intro rfl (And.intro rfl (And.intro rfl (And.intro rfl (And.intro rfl trivial)))))
set_option maxRecDepth 20000 in
theorem k_Mod_look {l : Launch} {X : zX} (hl : l.stackTraces = false) {h : zH} {v1 : Int32} : zGl l m_Mod_look X 0 0 (f_Mod_look h v1) (0, [some (zr (some (11, 333))), some (zi v1), none, none, none, none], [], h) (fun x => .inr ((fun a => (.inl (some (zi a.1)), a.2) : Int32 × zH → zF) x)) := by
  unfold f_Mod_look
  refine zG_bind (fun y => (5, [some (zr (some (11, 333))), some (zi v1), none, none, none, none], [], y)) (zG_run t_Mod [(.aload_n 0, 0, 0), (.iconst 0, 0, 0), (.putfield 181, 11, 2)] (5, [some (zr (some (11, 333))), some (zi v1), none, none, none, none], [], zsI h 333 2 0) (by decide +kernel) rfl (zG_end (L' := [some (zr (some (11, 333))), some (zi v1), none, none, none, none]) rfl (And.intro rfl (And.intro rfl trivial)))) fun h1 => ?_
  refine zG_run t_Mod [(.iload_n 1, 0, 0), (.iconst 0, 0, 0), (.iconst 1, 0, 0)] (8, [some (zr (some (11, 333))), some (zi v1), none, none, none, none], [zi 1, zi 0, zi v1], h1) (by decide +kernel) rfl ?_
  refine zG_callS (idx := 391) (R := (fun a => (some (zi a), h1))) (as := [zi v1, zi 0, zi 1]) (rest := []) (n := 3) (fun a ha => c_Mod_isIn hl ha) (by decide +kernel) ⟨ok_Mod_isIn, by decide, by decide +kernel⟩ rfl w_526 w_527 rfl rfl (Nat.le_of_ble_eq_true rfl) fun x2 => ?_
  refine zG_if (op := .ne) (off := 9) (tgt := 20) (by decide +kernel) rfl Iff.rfl (fun c18 => ?_) (fun c18 => ?_)
  · refine zG_run t_Mod [(.iconst (-1), 0, 0), (.istore_n 2, 0, 0)] (22, [some (zr (some (11, 333))), some (zi v1), some (zi (-1)), none, none, none], [], h1) (by decide +kernel) rfl ?_
    refine zG_forget (L' := [some (zr (some (11, 333))), some (zi v1), some (zi (-1)), none, none, none]) (And.intro rfl (And.intro rfl (And.intro rfl trivial))) ?_
    refine zG_bind (fun y : zH => (49, [some (zr (some (11, 333))), some (zi v1), none, none, none, none], [], y)) (zG_iter (fun s : Int32 × zH => (22, [some (zr (some (11, 333))), some (zi v1), some (zi s.1), none, none, none], [], s.2)) fun s => k_Mod_look_b22 hl) (fun y9 => ?_)
    refine zG_run t_Mod [(.iconst (-1), 0, 0), (.istore_n 2, 0, 0), (.iconst 0, 0, 0), (.istore_n 3, 0, 0), (.iconst 0, 0, 0), (.istore 4, 0, 0)] (56, [some (zr (some (11, 333))), some (zi v1), some (zi (-1)), some (zi 0), some (zi 0), none], [], y9) (by decide +kernel) rfl ?_
    refine zG_forget (L' := [some (zr (some (11, 333))), some (zi v1), some (zi (-1)), some (zi 0), some (zi 0), none]) (And.intro rfl (And.intro rfl (And.intro rfl (And.intro rfl (And.intro rfl trivial))))) ?_
    refine zG_bind (fun y : Int32 × Int32 × zH => (94, [none, some (zi v1), some (zi y.1), some (zi y.2.1), none, none], [], y.2.2)) (zG_iter (fun s : Int32 × Int32 × Int32 × zH => (56, [some (zr (some (11, 333))), some (zi v1), some (zi s.1), some (zi s.2.1), some (zi s.2.2.1), none], [], s.2.2.2)) fun s => k_Mod_look_b56 hl) (fun y15 => ?_)
    refine zG_run t_Mod [(.iload_n 1, 0, 0)] (95, [none, some (zi v1), some (zi y15.1), some (zi y15.2.1), none, none], [zi v1], y15.2.2) (by decide +kernel) rfl ?_
    refine zG_if (op := .ne) (off := 7) (tgt := 102) (by decide +kernel) rfl Iff.rfl (fun c16 => ?_) (fun c16 => ?_)
    · refine zG_run t_Mod [(.iload_n 3, 0, 0)] (103, [none, some (zi v1), some (zi y15.1), some (zi y15.2.1), none, none], [zi y15.2.1], y15.2.2) (by decide +kernel) rfl ?_
      exact zG_ret (r := some (zi y15.2.1)) rfl (zrd_i rfl (by decide +kernel))
    · refine zG_run t_Mod [(.iload_n 2, 0, 0), (.goto 4, 0, 0)] (103, [none, some (zi v1), some (zi y15.1), some (zi y15.2.1), none, none], [zi y15.1], y15.2.2) (by decide +kernel) rfl ?_
      exact zG_ret (r := some (zi y15.1)) rfl (zrd_i rfl (by decide +kernel))
  · refine zG_run t_Mod [(.aload_n 0, 0, 0), (.iconst 1, 0, 0)] (16, [some (zr (some (11, 333))), some (zi v1), none, none, none, none], [zi 1, zr (some (11, 333))], h1) (by decide +kernel) rfl ?_
    refine zG_callV (idx := 288) (R := (fun a => (some (zi a.1), a.2))) (as := [zi 1]) (rest := []) (n := 1) (fun a ha => c_Mod_fail hl ha) (by decide +kernel) ⟨ok_Mod_fail, by decide, by decide +kernel⟩ rfl w_378 w_379 w_380 (by decide) rfl rfl rfl (Nat.le_of_ble_eq_true rfl) fun x17 => ?_
    exact zG_ret (r := some (zi x17.1)) rfl (zrd_i rfl (by decide +kernel))
theorem c_Mod_look {l : Launch} {X : zX} (hl : l.stackTraces = false) {h : zH} {v1 : Int32} {x : Int32 × zH} (hx : f_Mod_look h v1 = some x) : zCt l (true, 2) 2 m_Mod_look X 0 0 [zr (some (11, 333)), zi v1] h ((fun a => (.inl (some (zi a.1)), a.2) : Int32 × zH → zF) x) :=
  zG_ct (R := fun a => (.inl (some (zi a.1)), a.2)) (x := x) ok_Mod_look hl (Nat.le_of_ble_eq_true rfl) hx (k_Mod_look hl)
def m_Mod_behind : zM := (({ cls := "ScanPackerModel", name := "behind", desc := "(I)I" } : Jvm.MethodName), prog_13_method_106_code, 4, (Option.some Jvm.ClassFile.FieldType.int), [], 4)
theorem ok_Mod_behind : zMok m_Mod_behind := ⟨by decide +kernel, zW_of 2039 (by decide +kernel) (by decide +kernel), zW_of 134 (by decide +kernel) (by decide +kernel), by decide, by decide +kernel, by decide +kernel⟩
set_option maxRecDepth 20000 in
theorem k_Mod_behind_b30 {l : Launch} {X : zX} (hl : l.stackTraces = false) {h : zH} {v1 : Int32} {v2 : Int32} {v3 : Int32} : zGl l m_Mod_behind X 0 0 (f_Mod_behind_b30 h v1 v2 v3) (30, [some (zr (some (11, 333))), some (zi v1), some (zi v2), some (zi v3)], [], h) (Sum.elim (fun s : Int32 × Int32 × zH => .inl (30, [some (zr (some (11, 333))), some (zi v1), some (zi s.1), some (zi s.2.1)], [], s.2.2)) (fun y : Int32 × zH => .inl (53, [none, none, some (zi y.1), none], [], y.2))) := by
  unfold f_Mod_behind_b30
  refine zG_run t_Mod [(.iload_n 3, 0, 0), (.iload_n 1, 0, 0)] (32, [some (zr (some (11, 333))), some (zi v1), some (zi v2), some (zi v3)], [zi v1, zi v3], h) (by decide +kernel) rfl ?_
  refine zG_icmp (op := .ge) (off := 21) (tgt := 53) (by decide +kernel) rfl Iff.rfl (fun c4 => ?_) (fun c4 => ?_)
  · exact zG_end (L' := [none, none, some (zi v2), none]) rfl (And.intro rfl trivial)
  · refine zG_run t_Mod [(.aload_n 0, 0, 0), (.iload_n 2, 0, 0), (.aload_n 0, 0, 0), (.getfield 74, 11, 14), (.iconst 2, 0, 0)] (42, [some (zr (some (11, 333))), some (zi v1), some (zi v2), some (zi v3)], [zi 2, zr (some (73, 347)), zi v2, zr (some (11, 333))], h) (by decide +kernel) rfl ?_
    refine zG_aldc (v := zi (h.1 347 2)) rfl (by decide +kernel) (by decide +kernel) rfl ?_
    refine zG_callV (idx := 441) (R := (fun a => (some (zi a.1), a.2))) (as := [zi v2, zi (h.1 347 2)]) (rest := []) (n := 2) (fun a ha => c_Mod_taken hl ha) (by decide +kernel) ⟨ok_Mod_taken, by decide, by decide +kernel⟩ rfl w_570 w_571 w_572 (by decide) rfl rfl rfl (Nat.le_of_ble_eq_true rfl) fun x3 => ?_
    refine zG_run t_Mod [(.istore_n 2, 0, 0), (.iinc 3 1, 0, 0), (.goto (-20), 0, 0)] (30, [some (zr (some (11, 333))), some (zi v1), some (zi x3.1), some (zi (v3 + 1))], [], x3.2) (by decide +kernel) rfl ?_
    exact zG_end (L' := [some (zr (some (11, 333))), some (zi v1), some (zi x3.1), some (zi (v3 + 1))]) rfl (And.intro rfl (And.intro rfl (And.intro rfl (And.intro rfl trivial))))
set_option maxRecDepth 20000 in
theorem k_Mod_behind {l : Launch} {X : zX} (hl : l.stackTraces = false) {h : zH} {v1 : Int32} : zGl l m_Mod_behind X 0 0 (f_Mod_behind h v1) (0, [some (zr (some (11, 333))), some (zi v1), none, none], [], h) (fun x => .inr ((fun a => (.inl (some (zi a.1)), a.2) : Int32 × zH → zF) x)) := by
  unfold f_Mod_behind
  refine zG_bind (fun y => (5, [some (zr (some (11, 333))), some (zi v1), none, none], [], y)) (zG_run t_Mod [(.aload_n 0, 0, 0), (.iconst 0, 0, 0), (.putfield 181, 11, 2)] (5, [some (zr (some (11, 333))), some (zi v1), none, none], [], zsI h 333 2 0) (by decide +kernel) rfl (zG_end (L' := [some (zr (some (11, 333))), some (zi v1), none, none]) rfl (And.intro rfl (And.intro rfl trivial)))) fun h1 => ?_
  refine zG_run t_Mod [(.iload_n 1, 0, 0), (.iconst 0, 0, 0), (.bipush 40, 0, 0)] (9, [some (zr (some (11, 333))), some (zi v1), none, none], [zi 40, zi 0, zi v1], h1) (by decide +kernel) rfl ?_
  refine zG_callS (idx := 391) (R := (fun a => (some (zi a), h1))) (as := [zi v1, zi 0, zi 40]) (rest := []) (n := 3) (fun a ha => c_Mod_isIn hl ha) (by decide +kernel) ⟨ok_Mod_isIn, by decide, by decide +kernel⟩ rfl w_526 w_527 rfl rfl (Nat.le_of_ble_eq_true rfl) fun x2 => ?_
  refine zG_if (op := .ne) (off := 9) (tgt := 21) (by decide +kernel) rfl Iff.rfl (fun c8 => ?_) (fun c8 => ?_)
  · refine zG_run t_Mod [(.aload_n 0, 0, 0), (.getfield 74, 11, 14), (.iconst 0, 0, 0)] (26, [some (zr (some (11, 333))), some (zi v1), none, none], [zi 0, zr (some (73, 347))], h1) (by decide +kernel) rfl ?_
    refine zG_aldc (v := zi (h1.1 347 0)) rfl (by decide +kernel) (by decide +kernel) rfl ?_
    refine zG_run t_Mod [(.istore_n 2, 0, 0), (.iconst 0, 0, 0), (.istore_n 3, 0, 0)] (30, [some (zr (some (11, 333))), some (zi v1), some (zi (h1.1 347 0)), some (zi 0)], [], h1) (by decide +kernel) rfl ?_
    refine zG_forget (L' := [some (zr (some (11, 333))), some (zi v1), some (zi (h1.1 347 0)), some (zi 0)]) (And.intro rfl (And.intro rfl (And.intro rfl (And.intro rfl trivial)))) ?_
    refine zG_bind (fun y : Int32 × zH => (53, [none, none, some (zi y.1), none], [], y.2)) (zG_iter (fun s : Int32 × Int32 × zH => (30, [some (zr (some (11, 333))), some (zi v1), some (zi s.1), some (zi s.2.1)], [], s.2.2)) fun s => k_Mod_behind_b30 hl) (fun y6 => ?_)
    refine zG_run t_Mod [(.iload_n 2, 0, 0)] (54, [none, none, some (zi y6.1), none], [zi y6.1], y6.2) (by decide +kernel) rfl ?_
    exact zG_ret (r := some (zi y6.1)) rfl (zrd_i rfl (by decide +kernel))
  · refine zG_run t_Mod [(.aload_n 0, 0, 0), (.iconst 1, 0, 0)] (17, [some (zr (some (11, 333))), some (zi v1), none, none], [zi 1, zr (some (11, 333))], h1) (by decide +kernel) rfl ?_
    refine zG_callV (idx := 288) (R := (fun a => (some (zi a.1), a.2))) (as := [zi 1]) (rest := []) (n := 1) (fun a ha => c_Mod_fail hl ha) (by decide +kernel) ⟨ok_Mod_fail, by decide, by decide +kernel⟩ rfl w_378 w_379 w_380 (by decide) rfl rfl rfl (Nat.le_of_ble_eq_true rfl) fun x7 => ?_
    exact zG_ret (r := some (zi x7.1)) rfl (zrd_i rfl (by decide +kernel))
theorem c_Mod_behind {l : Launch} {X : zX} (hl : l.stackTraces = false) {h : zH} {v1 : Int32} {x : Int32 × zH} (hx : f_Mod_behind h v1 = some x) : zCt l (true, 2) 2 m_Mod_behind X 0 0 [zr (some (11, 333)), zi v1] h ((fun a => (.inl (some (zi a.1)), a.2) : Int32 × zH → zF) x) :=
  zG_ct (R := fun a => (.inl (some (zi a.1)), a.2)) (x := x) ok_Mod_behind hl (Nat.le_of_ble_eq_true rfl) hx (k_Mod_behind hl)
def m_Mod_back : zM := (({ cls := "ScanPackerModel", name := "back", desc := "()I" } : Jvm.MethodName), prog_13_method_107_code, 3, (Option.some Jvm.ClassFile.FieldType.int), [], 4)
theorem ok_Mod_back : zMok m_Mod_back := ⟨by decide +kernel, zW_of 2043 (by decide +kernel) (by decide +kernel), zW_of 134 (by decide +kernel) (by decide +kernel), by decide, by decide +kernel, by decide +kernel⟩
set_option maxRecDepth 20000 in
theorem k_Mod_back_b14 {l : Launch} {X : zX} (hl : l.stackTraces = false) {h : zH} {v1 : Int32} {v2 : Int32} : zGl l m_Mod_back X 0 0 (f_Mod_back_b14 h v1 v2) (14, [some (zr (some (11, 333))), some (zi v1), some (zi v2)], [], h) (Sum.elim (fun s : Int32 × Int32 × zH => .inl (14, [some (zr (some (11, 333))), some (zi s.1), some (zi s.2.1)], [], s.2.2)) (Sum.elim (fun y : Int32 × zH => .inl (42, [none, none, some (zi y.1)], [], y.2)) (fun y : zH => .inl (50, [none, none, none], [], y)))) := by
  unfold f_Mod_back_b14
  refine zG_run t_Mod [(.iload_n 2, 0, 0), (.bipush 64, 0, 0)] (17, [some (zr (some (11, 333))), some (zi v1), some (zi v2)], [zi 64, zi v2], h) (by decide +kernel) rfl ?_
  refine zG_icmp (op := .gt) (off := 33) (tgt := 50) (by decide +kernel) rfl Iff.rfl (fun c4 => ?_) (fun c4 => ?_)
  · exact zG_end (L' := [none, none, none]) rfl (trivial)
  · refine zG_run t_Mod [(.aload_n 0, 0, 0), (.iload_n 1, 0, 0), (.aload_n 0, 0, 0), (.getfield 74, 11, 14), (.iconst 2, 0, 0)] (27, [some (zr (some (11, 333))), some (zi v1), some (zi v2)], [zi 2, zr (some (73, 347)), zi v1, zr (some (11, 333))], h) (by decide +kernel) rfl ?_
    refine zG_aldc (v := zi (h.1 347 2)) rfl (by decide +kernel) (by decide +kernel) rfl ?_
    refine zG_callV (idx := 441) (R := (fun a => (some (zi a.1), a.2))) (as := [zi v1, zi (h.1 347 2)]) (rest := []) (n := 2) (fun a ha => c_Mod_taken hl ha) (by decide +kernel) ⟨ok_Mod_taken, by decide, by decide +kernel⟩ rfl w_570 w_571 w_572 (by decide) rfl rfl rfl (Nat.le_of_ble_eq_true rfl) fun x2 => ?_
    refine zG_run t_Mod [(.istore_n 1, 0, 0), (.iload_n 1, 0, 0), (.aload_n 0, 0, 0), (.getfield 74, 11, 14), (.iconst 0, 0, 0)] (38, [some (zr (some (11, 333))), some (zi x2.1), some (zi v2)], [zi 0, zr (some (73, 347)), zi x2.1], x2.2) (by decide +kernel) rfl ?_
    refine zG_aldc (v := zi (x2.2.1 347 0)) rfl (by decide +kernel) (by decide +kernel) rfl ?_
    refine zG_icmp (op := .ne) (off := 5) (tgt := 44) (by decide +kernel) rfl Iff.rfl (fun c3 => ?_) (fun c3 => ?_)
    · refine zG_run t_Mod [(.iinc 2 1, 0, 0), (.goto (-33), 0, 0)] (14, [some (zr (some (11, 333))), some (zi x2.1), some (zi (v2 + 1))], [], x2.2) (by decide +kernel) rfl ?_
      exact zG_end (L' := [some (zr (some (11, 333))), some (zi x2.1), some (zi (v2 + 1))]) rfl (And.intro rfl (And.intro rfl (And.intro rfl trivial)))
    · exact zG_end (L' := [none, none, some (zi v2)]) rfl (And.intro rfl trivial)
set_option maxRecDepth 20000 in
theorem k_Mod_back {l : Launch} {X : zX} (hl : l.stackTraces = false) {h : zH} : zGl l m_Mod_back X 0 0 (f_Mod_back h) (0, [some (zr (some (11, 333))), none, none], [], h) (fun x => .inr ((fun a => (.inl (some (zi a.1)), a.2) : Int32 × zH → zF) x)) := by
  unfold f_Mod_back
  refine zG_bind (fun y => (5, [some (zr (some (11, 333))), none, none], [], y)) (zG_run t_Mod [(.aload_n 0, 0, 0), (.iconst 0, 0, 0), (.putfield 181, 11, 2)] (5, [some (zr (some (11, 333))), none, none], [], zsI h 333 2 0) (by decide +kernel) rfl (zG_end (L' := [some (zr (some (11, 333))), none, none]) rfl (And.intro rfl trivial))) fun h1 => ?_
  refine zG_run t_Mod [(.aload_n 0, 0, 0), (.getfield 74, 11, 14), (.iconst 0, 0, 0)] (10, [some (zr (some (11, 333))), none, none], [zi 0, zr (some (73, 347))], h1) (by decide +kernel) rfl ?_
  refine zG_aldc (v := zi (h1.1 347 0)) rfl (by decide +kernel) (by decide +kernel) rfl ?_
  refine zG_run t_Mod [(.istore_n 1, 0, 0), (.iconst 1, 0, 0), (.istore_n 2, 0, 0)] (14, [some (zr (some (11, 333))), some (zi (h1.1 347 0)), some (zi 1)], [], h1) (by decide +kernel) rfl ?_
  refine zG_forget (L' := [some (zr (some (11, 333))), some (zi (h1.1 347 0)), some (zi 1)]) (And.intro rfl (And.intro rfl (And.intro rfl trivial))) ?_
  refine zG_bind2 (fun y : Int32 × zH => (42, [none, none, some (zi y.1)], [], y.2)) (fun y : zH => (50, [none, none, none], [], y)) (zG_iter (fun s : Int32 × Int32 × zH => (14, [some (zr (some (11, 333))), some (zi s.1), some (zi s.2.1)], [], s.2.2)) fun s => k_Mod_back_b14 hl) (fun y6 => ?_) (fun y7 => ?_)
  · refine zG_run t_Mod [(.iload_n 2, 0, 0)] (43, [none, none, some (zi y6.1)], [zi y6.1], y6.2) (by decide +kernel) rfl ?_
    exact zG_ret (r := some (zi y6.1)) rfl (zrd_i rfl (by decide +kernel))
  · refine zG_run t_Mod [(.iconst (-1), 0, 0)] (51, [none, none, none], [zi (-1)], y7) (by decide +kernel) rfl ?_
    exact zG_ret (r := some (zi (-1))) rfl (zrd_i rfl (by decide +kernel))
theorem c_Mod_back {l : Launch} {X : zX} (hl : l.stackTraces = false) {h : zH} {x : Int32 × zH} (hx : f_Mod_back h = some x) : zCt l (true, 2) 2 m_Mod_back X 0 0 [zr (some (11, 333))] h ((fun a => (.inl (some (zi a.1)), a.2) : Int32 × zH → zF) x) :=
  zG_ct (R := fun a => (.inl (some (zi a.1)), a.2)) (x := x) ok_Mod_back hl (Nat.le_of_ble_eq_true rfl) hx (k_Mod_back hl)
def m_Mod_tells : zM := (({ cls := "ScanPackerModel", name := "tells", desc := "(I)I" } : Jvm.MethodName), prog_13_method_108_code, 6, (Option.some Jvm.ClassFile.FieldType.int), [], 4)
theorem ok_Mod_tells : zMok m_Mod_tells := ⟨by decide +kernel, zW_of 2047 (by decide +kernel) (by decide +kernel), zW_of 134 (by decide +kernel) (by decide +kernel), by decide, by decide +kernel, by decide +kernel⟩
set_option maxRecDepth 20000 in
theorem k_Mod_tells_b36 {l : Launch} {X : zX} (hl : l.stackTraces = false) {h : zH} {v1 : Int32} {v2 : Int32} {v3 : Int32} {v4 : Int32} : zGl l m_Mod_tells X 0 0 (f_Mod_tells_b36 h v1 v2 v3 v4) (36, [some (zr (some (11, 333))), some (zi v1), some (zi v2), some (zi v3), some (zi v4), none], [], h) (Sum.elim (fun s : Int32 × Int32 × Int32 × zH => .inl (36, [some (zr (some (11, 333))), some (zi v1), some (zi s.1), some (zi s.2.1), some (zi s.2.2.1), none], [], s.2.2.2)) (Sum.elim (fun y : Int32 × zH => .inl (78, [none, none, none, none, some (zi y.1), none], [], y.2)) (fun y : zH => .inl (101, [none, none, none, none, none, none], [], y)))) := by
  unfold f_Mod_tells_b36
  refine zG_run t_Mod [(.iload 4, 0, 0), (.bipush 64, 0, 0)] (40, [some (zr (some (11, 333))), some (zi v1), some (zi v2), some (zi v3), some (zi v4), none], [zi 64, zi v4], h) (by decide +kernel) rfl ?_
  refine zG_icmp (op := .gt) (off := 61) (tgt := 101) (by decide +kernel) rfl Iff.rfl (fun c12 => ?_) (fun c12 => ?_)
  · exact zG_end (L' := [none, none, none, none, none, none]) rfl (trivial)
  · refine zG_run t_Mod [(.aload_n 0, 0, 0), (.iload_n 2, 0, 0)] (45, [some (zr (some (11, 333))), some (zi v1), some (zi v2), some (zi v3), some (zi v4), none], [zi v2, zr (some (11, 333))], h) (by decide +kernel) rfl ?_
    refine zG_callV (idx := 326) (R := (fun a => (none, a))) (as := [zi v2]) (rest := []) (n := 1) (fun a ha => c_Mod_putRow hl ha) (by decide +kernel) ⟨ok_Mod_putRow, by decide, by decide +kernel⟩ rfl w_452 w_453 w_454 (by decide) rfl rfl rfl (Nat.le_of_ble_eq_true rfl) fun x3 => ?_
    refine zG_run t_Mod [(.aload_n 0, 0, 0), (.iload_n 1, 0, 0)] (50, [some (zr (some (11, 333))), some (zi v1), some (zi v2), some (zi v3), some (zi v4), none], [zi v1, zr (some (11, 333))], x3) (by decide +kernel) rfl ?_
    refine zG_callV (idx := 317) (R := (fun a => (none, a))) (as := [zi v1]) (rest := []) (n := 1) (fun a ha => c_Mod_tellLines hl ha) (by decide +kernel) ⟨ok_Mod_tellLines, by decide, by decide +kernel⟩ rfl w_461 w_462 w_463 (by decide) rfl rfl rfl (Nat.le_of_ble_eq_true rfl) fun x4 => ?_
    refine zG_run t_Mod [(.aload_n 0, 0, 0)] (54, [some (zr (some (11, 333))), some (zi v1), some (zi v2), some (zi v3), some (zi v4), none], [zr (some (11, 333))], x4) (by decide +kernel) rfl ?_
    refine zG_callV (idx := 464) (R := (fun a => (some (zi a), x4))) (as := []) (rest := []) (n := 0) (fun a ha => c_Mod_seenNow hl ha) (by decide +kernel) ⟨ok_Mod_seenNow, by decide, by decide +kernel⟩ rfl w_589 w_590 w_591 (by decide) rfl rfl rfl (Nat.le_of_ble_eq_true rfl) fun x5 => ?_
    refine zG_run t_Mod [(.istore 5, 0, 0), (.aload_n 0, 0, 0), (.iload_n 3, 0, 0)] (61, [some (zr (some (11, 333))), some (zi v1), some (zi v2), some (zi v3), some (zi v4), some (zi x5)], [zi v3, zr (some (11, 333))], x4) (by decide +kernel) rfl ?_
    refine zG_callV (idx := 326) (R := (fun a => (none, a))) (as := [zi v3]) (rest := []) (n := 1) (fun a ha => c_Mod_putRow hl ha) (by decide +kernel) ⟨ok_Mod_putRow, by decide, by decide +kernel⟩ rfl w_452 w_453 w_454 (by decide) rfl rfl rfl (Nat.le_of_ble_eq_true rfl) fun x6 => ?_
    refine zG_run t_Mod [(.aload_n 0, 0, 0), (.iconst (-1), 0, 0)] (66, [some (zr (some (11, 333))), some (zi v1), some (zi v2), some (zi v3), some (zi v4), some (zi x5)], [zi (-1), zr (some (11, 333))], x6) (by decide +kernel) rfl ?_
    refine zG_callV (idx := 317) (R := (fun a => (none, a))) (as := [zi (-1)]) (rest := []) (n := 1) (fun a ha => c_Mod_tellLines hl ha) (by decide +kernel) ⟨ok_Mod_tellLines, by decide, by decide +kernel⟩ rfl w_461 w_462 w_463 (by decide) rfl rfl rfl (Nat.le_of_ble_eq_true rfl) fun x7 => ?_
    refine zG_run t_Mod [(.aload_n 0, 0, 0)] (70, [some (zr (some (11, 333))), some (zi v1), some (zi v2), some (zi v3), some (zi v4), some (zi x5)], [zr (some (11, 333))], x7) (by decide +kernel) rfl ?_
    refine zG_callV (idx := 464) (R := (fun a => (some (zi a), x7))) (as := []) (rest := []) (n := 0) (fun a ha => c_Mod_seenNow hl ha) (by decide +kernel) ⟨ok_Mod_seenNow, by decide, by decide +kernel⟩ rfl w_589 w_590 w_591 (by decide) rfl rfl rfl (Nat.le_of_ble_eq_true rfl) fun x8 => ?_
    refine zG_run t_Mod [(.iload 5, 0, 0)] (75, [some (zr (some (11, 333))), some (zi v1), some (zi v2), some (zi v3), some (zi v4), some (zi x5)], [zi x5, zi x8], x7) (by decide +kernel) rfl ?_
    refine zG_icmp (op := .eq) (off := 6) (tgt := 81) (by decide +kernel) rfl Iff.rfl (fun c11 => ?_) (fun c11 => ?_)
    · refine zG_run t_Mod [(.aload_n 0, 0, 0), (.iload_n 2, 0, 0), (.iload_n 1, 0, 0)] (84, [some (zr (some (11, 333))), some (zi v1), some (zi v2), some (zi v3), some (zi v4), some (zi x5)], [zi v1, zi v2, zr (some (11, 333))], x7) (by decide +kernel) rfl ?_
      refine zG_callV (idx := 441) (R := (fun a => (some (zi a.1), a.2))) (as := [zi v2, zi v1]) (rest := []) (n := 2) (fun a ha => c_Mod_taken hl ha) (by decide +kernel) ⟨ok_Mod_taken, by decide, by decide +kernel⟩ rfl w_570 w_571 w_572 (by decide) rfl rfl rfl (Nat.le_of_ble_eq_true rfl) fun x9 => ?_
      refine zG_run t_Mod [(.istore_n 2, 0, 0), (.aload_n 0, 0, 0), (.iload_n 3, 0, 0), (.iconst (-1), 0, 0)] (91, [some (zr (some (11, 333))), some (zi v1), some (zi x9.1), some (zi v3), some (zi v4), some (zi x5)], [zi (-1), zi v3, zr (some (11, 333))], x9.2) (by decide +kernel) rfl ?_
      refine zG_callV (idx := 441) (R := (fun a => (some (zi a.1), a.2))) (as := [zi v3, zi (-1)]) (rest := []) (n := 2) (fun a ha => c_Mod_taken hl ha) (by decide +kernel) ⟨ok_Mod_taken, by decide, by decide +kernel⟩ rfl w_570 w_571 w_572 (by decide) rfl rfl rfl (Nat.le_of_ble_eq_true rfl) fun x10 => ?_
      refine zG_run t_Mod [(.istore_n 3, 0, 0), (.iinc 4 1, 0, 0), (.goto (-62), 0, 0)] (36, [some (zr (some (11, 333))), some (zi v1), some (zi x9.1), some (zi x10.1), some (zi (v4 + 1)), some (zi x5)], [], x10.2) (by decide +kernel) rfl ?_
      exact zG_end (L' := [some (zr (some (11, 333))), some (zi v1), some (zi x9.1), some (zi x10.1), some (zi (v4 + 1)), none]) rfl (And.intro rfl (And.intro rfl (And.intro rfl (And.intro rfl (And.intro rfl trivial)))))
    · exact zG_end (L' := [none, none, none, none, some (zi v4), none]) rfl (And.intro rfl trivial)
set_option maxRecDepth 20000 in
theorem k_Mod_tells {l : Launch} {X : zX} (hl : l.stackTraces = false) {h : zH} {v1 : Int32} : zGl l m_Mod_tells X 0 0 (f_Mod_tells h v1) (0, [some (zr (some (11, 333))), some (zi v1), none, none, none, none], [], h) (fun x => .inr ((fun a => (.inl (some (zi a.1)), a.2) : Int32 × zH → zF) x)) := by
  unfold f_Mod_tells
  refine zG_bind (fun y => (5, [some (zr (some (11, 333))), some (zi v1), none, none, none, none], [], y)) (zG_run t_Mod [(.aload_n 0, 0, 0), (.iconst 0, 0, 0), (.putfield 181, 11, 2)] (5, [some (zr (some (11, 333))), some (zi v1), none, none, none, none], [], zsI h 333 2 0) (by decide +kernel) rfl (zG_end (L' := [some (zr (some (11, 333))), some (zi v1), none, none, none, none]) rfl (And.intro rfl (And.intro rfl trivial)))) fun h1 => ?_
  refine zG_run t_Mod [(.aload_n 0, 0, 0), (.iload_n 1, 0, 0)] (7, [some (zr (some (11, 333))), some (zi v1), none, none, none, none], [zi v1, zr (some (11, 333))], h1) (by decide +kernel) rfl ?_
  refine zG_callV (idx := 401) (R := (fun a => (some (zi a), h1))) (as := [zi v1]) (rest := []) (n := 1) (fun a ha => c_Mod_isFault hl ha) (by decide +kernel) ⟨ok_Mod_isFault, by decide, by decide +kernel⟩ rfl w_534 w_535 w_536 (by decide) rfl rfl rfl (Nat.le_of_ble_eq_true rfl) fun x2 => ?_
  refine zG_if (op := .ne) (off := 9) (tgt := 19) (by decide +kernel) rfl Iff.rfl (fun c17 => ?_) (fun c17 => ?_)
  · refine zG_run t_Mod [(.aload_n 0, 0, 0), (.getfield 74, 11, 14), (.iconst 0, 0, 0)] (24, [some (zr (some (11, 333))), some (zi v1), none, none, none, none], [zi 0, zr (some (73, 347))], h1) (by decide +kernel) rfl ?_
    refine zG_aldc (v := zi (h1.1 347 0)) rfl (by decide +kernel) (by decide +kernel) rfl ?_
    refine zG_run t_Mod [(.istore_n 2, 0, 0), (.aload_n 0, 0, 0), (.getfield 74, 11, 14), (.iconst 0, 0, 0)] (31, [some (zr (some (11, 333))), some (zi v1), some (zi (h1.1 347 0)), none, none, none], [zi 0, zr (some (73, 347))], h1) (by decide +kernel) rfl ?_
    refine zG_aldc (v := zi (h1.1 347 0)) rfl (by decide +kernel) (by decide +kernel) rfl ?_
    refine zG_run t_Mod [(.istore_n 3, 0, 0), (.iconst 0, 0, 0), (.istore 4, 0, 0)] (36, [some (zr (some (11, 333))), some (zi v1), some (zi (h1.1 347 0)), some (zi (h1.1 347 0)), some (zi 0), none], [], h1) (by decide +kernel) rfl ?_
    refine zG_forget (L' := [some (zr (some (11, 333))), some (zi v1), some (zi (h1.1 347 0)), some (zi (h1.1 347 0)), some (zi 0), none]) (And.intro rfl (And.intro rfl (And.intro rfl (And.intro rfl (And.intro rfl trivial))))) ?_
    refine zG_bind2 (fun y : Int32 × zH => (78, [none, none, none, none, some (zi y.1), none], [], y.2)) (fun y : zH => (101, [none, none, none, none, none, none], [], y)) (zG_iter (fun s : Int32 × Int32 × Int32 × zH => (36, [some (zr (some (11, 333))), some (zi v1), some (zi s.1), some (zi s.2.1), some (zi s.2.2.1), none], [], s.2.2.2)) fun s => k_Mod_tells_b36 hl) (fun y14 => ?_) (fun y15 => ?_)
    · refine zG_run t_Mod [(.iload 4, 0, 0)] (80, [none, none, none, none, some (zi y14.1), none], [zi y14.1], y14.2) (by decide +kernel) rfl ?_
      exact zG_ret (r := some (zi y14.1)) rfl (zrd_i rfl (by decide +kernel))
    · refine zG_run t_Mod [(.iconst (-1), 0, 0)] (102, [none, none, none, none, none, none], [zi (-1)], y15) (by decide +kernel) rfl ?_
      exact zG_ret (r := some (zi (-1))) rfl (zrd_i rfl (by decide +kernel))
  · refine zG_run t_Mod [(.aload_n 0, 0, 0), (.iconst 1, 0, 0)] (15, [some (zr (some (11, 333))), some (zi v1), none, none, none, none], [zi 1, zr (some (11, 333))], h1) (by decide +kernel) rfl ?_
    refine zG_callV (idx := 288) (R := (fun a => (some (zi a.1), a.2))) (as := [zi 1]) (rest := []) (n := 1) (fun a ha => c_Mod_fail hl ha) (by decide +kernel) ⟨ok_Mod_fail, by decide, by decide +kernel⟩ rfl w_378 w_379 w_380 (by decide) rfl rfl rfl (Nat.le_of_ble_eq_true rfl) fun x16 => ?_
    exact zG_ret (r := some (zi x16.1)) rfl (zrd_i rfl (by decide +kernel))
theorem c_Mod_tells {l : Launch} {X : zX} (hl : l.stackTraces = false) {h : zH} {v1 : Int32} {x : Int32 × zH} (hx : f_Mod_tells h v1 = some x) : zCt l (true, 2) 2 m_Mod_tells X 0 0 [zr (some (11, 333)), zi v1] h ((fun a => (.inl (some (zi a.1)), a.2) : Int32 × zH → zF) x) :=
  zG_ct (R := fun a => (.inl (some (zi a.1)), a.2)) (x := x) ok_Mod_tells hl (Nat.le_of_ble_eq_true rfl) hx (k_Mod_tells hl)
def m_Mod_copyTo_99_73 : zM := (({ cls := "ScanPackerModel", name := "copyTo", desc := "([I[I)V" } : Jvm.MethodName), prog_13_method_80_code, 3, (Option.none : Option Jvm.ClassFile.FieldType), [], 1)
theorem ok_Mod_copyTo_99_73 : zMok m_Mod_copyTo_99_73 := ⟨by decide +kernel, zW_of 2054 (by decide +kernel) (by decide +kernel), zW_of 134 (by decide +kernel) (by decide +kernel), by decide, by decide +kernel, by decide +kernel⟩
set_option maxRecDepth 20000 in
theorem k_Mod_copyTo_99_73_b2 {l : Launch} {X : zX} (hl : l.stackTraces = false) {h : zH} {v2 : Int32} : zGl l m_Mod_copyTo_99_73 X 0 0 (f_Mod_copyTo_99_73_b2 h v2) (2, [some (zr (some (99, 373))), some (zr (some (73, 347))), some (zi v2)], [], h) (Sum.elim (fun s : Int32 × zH => .inl (2, [some (zr (some (99, 373))), some (zr (some (73, 347))), some (zi s.1)], [], s.2)) (fun y : zH => .inl (20, [none, none, none], [], y))) := by
  unfold f_Mod_copyTo_99_73_b2
  refine zG_run t_Mod [(.iload_n 2, 0, 0), (.aload_n 0, 0, 0)] (4, [some (zr (some (99, 373))), some (zr (some (73, 347))), some (zi v2)], [zr (some (99, 373)), zi v2], h) (by decide +kernel) rfl ?_
  refine zG_alen (v := 57) rfl (by decide +kernel) rfl ?_
  refine zG_icmp (op := .ge) (off := 15) (tgt := 20) (by decide +kernel) rfl Iff.rfl (fun c4 => ?_) (fun c4 => ?_)
  · exact zG_end (L' := [none, none, none]) rfl (trivial)
  · refine zG_run t_Mod [(.aload_n 0, 0, 0), (.iload_n 2, 0, 0), (.aload_n 1, 0, 0), (.iload_n 2, 0, 0)] (12, [some (zr (some (99, 373))), some (zr (some (73, 347))), some (zi v2)], [zi v2, zr (some (73, 347)), zi v2, zr (some (99, 373))], h) (by decide +kernel) rfl ?_
    refine zG_ald (v := zi (h.1 347 v2.toNatClampNeg)) (n := 57) rfl (by decide +kernel) rfl rfl fun hb1 => ?_
    refine zG_guard fun hb3 => ?_
    refine zG_bind (fun y => (14, [some (zr (some (99, 373))), some (zr (some (73, 347))), some (zi v2)], [], y)) (zG_astc (h' := zsI h 373 v2.toNatClampNeg (h.1 347 v2.toNatClampNeg)) rfl (by decide +kernel) hb3 rfl (zG_end (L' := [some (zr (some (99, 373))), some (zr (some (73, 347))), some (zi v2)]) rfl (And.intro rfl (And.intro rfl (And.intro rfl trivial))))) fun h2 => ?_
    refine zG_run t_Mod [(.iinc 2 1, 0, 0), (.goto (-15), 0, 0)] (2, [some (zr (some (99, 373))), some (zr (some (73, 347))), some (zi (v2 + 1))], [], h2) (by decide +kernel) rfl ?_
    exact zG_end (L' := [some (zr (some (99, 373))), some (zr (some (73, 347))), some (zi (v2 + 1))]) rfl (And.intro rfl (And.intro rfl (And.intro rfl trivial)))
set_option maxRecDepth 20000 in
theorem k_Mod_copyTo_99_73 {l : Launch} {X : zX} (hl : l.stackTraces = false) {h : zH} : zGl l m_Mod_copyTo_99_73 X 0 0 (f_Mod_copyTo_99_73 h) (0, [some (zr (some (99, 373))), some (zr (some (73, 347))), none], [], h) (fun x => .inr ((fun a => (.inl none, a) : zH → zF) x)) := by
  unfold f_Mod_copyTo_99_73
  refine zG_run t_Mod [(.iconst 0, 0, 0), (.istore_n 2, 0, 0)] (2, [some (zr (some (99, 373))), some (zr (some (73, 347))), some (zi 0)], [], h) (by decide +kernel) rfl ?_
  refine zG_forget (L' := [some (zr (some (99, 373))), some (zr (some (73, 347))), some (zi 0)]) (And.intro rfl (And.intro rfl (And.intro rfl trivial))) ?_
  refine zG_bind (fun y : zH => (20, [none, none, none], [], y)) (zG_iter (fun s : Int32 × zH => (2, [some (zr (some (99, 373))), some (zr (some (73, 347))), some (zi s.1)], [], s.2)) fun s => k_Mod_copyTo_99_73_b2 hl) (fun y6 => ?_)
  exact zG_ret (r := none) rfl (zrd_v rfl (by decide +kernel))
theorem c_Mod_copyTo_99_73 {l : Launch} {X : zX} (hl : l.stackTraces = false) {h : zH} {x : zH} (hx : f_Mod_copyTo_99_73 h = some x) : zCt l (true, 2) 2 m_Mod_copyTo_99_73 X 0 0 [zr (some (99, 373)), zr (some (73, 347))] h ((fun a => (.inl none, a) : zH → zF) x) :=
  zG_ct (R := fun a => (.inl none, a)) (x := x) ok_Mod_copyTo_99_73 hl (Nat.le_of_ble_eq_true rfl) hx (k_Mod_copyTo_99_73 hl)
def m_Mod_draw : zM := (({ cls := "ScanPackerModel", name := "draw", desc := "(I)I" } : Jvm.MethodName), prog_13_method_109_code, 2, (Option.some Jvm.ClassFile.FieldType.int), [], 1)
theorem ok_Mod_draw : zMok m_Mod_draw := ⟨by decide +kernel, zW_of 2062 (by decide +kernel) (by decide +kernel), zW_of 134 (by decide +kernel) (by decide +kernel), by decide, by decide +kernel, by decide +kernel⟩
set_option maxRecDepth 20000 in
theorem k_Mod_draw {l : Launch} {X : zX} (hl : l.stackTraces = false) {h : zH} {v1 : Int32} : zGl l m_Mod_draw X 0 0 (f_Mod_draw h v1) (0, [some (zr (some (11, 333))), some (zi v1)], [], h) (fun x => .inr ((fun a => (.inl (some (zi a.1)), a.2) : Int32 × zH → zF) x)) := by
  unfold f_Mod_draw
  refine zG_run t_Mod [(.aload_n 0, 0, 0), (.aload_n 0, 0, 0), (.getfield 470, 11, 53)] (5, [some (zr (some (11, 333))), some (zi v1)], [zi (h.1 333 53), zr (some (11, 333))], h) (by decide +kernel) rfl ?_
  refine zG_ldcw (v := 1103515245) (by decide +kernel) w_597 ?_
  refine zG_bind (fun y => (16, [some (zr (some (11, 333))), some (zi v1)], [], y)) (zG_run t_Mod [(.imul, 0, 0), (.sipush 12345, 0, 0), (.iadd, 0, 0), (.putfield 470, 11, 53)] (16, [some (zr (some (11, 333))), some (zi v1)], [], zsI h 333 53 (((h.1 333 53) * 1103515245) + 12345)) (by decide +kernel) rfl (zG_end (L' := [some (zr (some (11, 333))), some (zi v1)]) rfl (And.intro rfl (And.intro rfl trivial)))) fun h1 => ?_
  refine zG_run t_Mod [(.aload_n 0, 0, 0), (.getfield 470, 11, 53), (.bipush 16, 0, 0), (.ishr, 0, 0), (.sipush 32767, 0, 0), (.iand, 0, 0), (.iload_n 1, 0, 0)] (28, [some (zr (some (11, 333))), some (zi v1)], [zi v1, zi ((zshr (h1.1 333 53) 16) &&& 32767)], h1) (by decide +kernel) rfl ?_
  refine zG_irem (by decide +kernel) ?_
  exact zG_ret (r := some (zi (zrem ((zshr (h1.1 333 53) 16) &&& 32767) v1))) rfl (zrd_i rfl (by decide +kernel))
theorem c_Mod_draw {l : Launch} {X : zX} (hl : l.stackTraces = false) {h : zH} {v1 : Int32} {x : Int32 × zH} (hx : f_Mod_draw h v1 = some x) : zCt l (true, 2) 2 m_Mod_draw X 0 0 [zr (some (11, 333)), zi v1] h ((fun a => (.inl (some (zi a.1)), a.2) : Int32 × zH → zF) x) :=
  zG_ct (R := fun a => (.inl (some (zi a.1)), a.2)) (x := x) ok_Mod_draw hl (Nat.le_of_ble_eq_true rfl) hx (k_Mod_draw hl)
def m_Mod_happen : zM := (({ cls := "ScanPackerModel", name := "happen", desc := "()V" } : Jvm.MethodName), prog_13_method_110_code, 3, (Option.none : Option Jvm.ClassFile.FieldType), [], 5)
theorem ok_Mod_happen : zMok m_Mod_happen := ⟨by decide +kernel, zW_of 2058 (by decide +kernel) (by decide +kernel), zW_of 134 (by decide +kernel) (by decide +kernel), by decide, by decide +kernel, by decide +kernel⟩
set_option maxRecDepth 20000 in
theorem k_Mod_happen {l : Launch} {X : zX} (hl : l.stackTraces = false) {h : zH} : zGl l m_Mod_happen X 0 0 (f_Mod_happen h) (0, [some (zr (some (11, 333))), none, none], [], h) (fun x => .inr ((fun a => (.inl none, a) : zH → zF) x)) := by
  unfold f_Mod_happen
  refine zG_run t_Mod [(.aload_n 0, 0, 0), (.iconst 4, 0, 0)] (2, [some (zr (some (11, 333))), none, none], [zi 4, zr (some (11, 333))], h) (by decide +kernel) rfl ?_
  refine zG_callV (idx := 474) (R := (fun a => (some (zi a.1), a.2))) (as := [zi 4]) (rest := []) (n := 1) (fun a ha => c_Mod_draw hl ha) (by decide +kernel) ⟨ok_Mod_draw, by decide, by decide +kernel⟩ rfl w_598 w_599 w_600 (by decide) rfl rfl rfl (Nat.le_of_ble_eq_true rfl) fun x1 => ?_
  refine zG_run t_Mod [(.istore_n 1, 0, 0), (.iload_n 1, 0, 0)] (7, [some (zr (some (11, 333))), some (zi x1.1), none], [zi x1.1], x1.2) (by decide +kernel) rfl ?_
  refine zG_if (op := .ne) (off := 28) (tgt := 35) (by decide +kernel) rfl Iff.rfl (fun c14 => ?_) (fun c14 => ?_)
  · refine zG_run t_Mod [(.iload_n 1, 0, 0), (.iconst 1, 0, 0)] (37, [some (zr (some (11, 333))), some (zi x1.1), none], [zi 1, zi x1.1], x1.2) (by decide +kernel) rfl ?_
    refine zG_icmp (op := .ne) (off := 10) (tgt := 47) (by decide +kernel) rfl Iff.rfl (fun c10 => ?_) (fun c10 => ?_)
    · refine zG_run t_Mod [(.iload_n 1, 0, 0), (.iconst 2, 0, 0)] (49, [some (zr (some (11, 333))), some (zi x1.1), none], [zi 2, zi x1.1], x1.2) (by decide +kernel) rfl ?_
      refine zG_icmp (op := .ne) (off := 38) (tgt := 87) (by decide +kernel) rfl Iff.rfl (fun c8 => ?_) (fun c8 => ?_)
      · refine zG_run t_Mod [(.aload_n 0, 0, 0)] (88, [some (zr (some (11, 333))), some (zi x1.1), none], [zr (some (11, 333))], x1.2) (by decide +kernel) rfl ?_
        refine zG_callV (idx := 455) (R := (fun a => (some (zi a.1), a.2))) (as := []) (rest := []) (n := 0) (fun a ha => c_Mod_applyNow hl ha) (by decide +kernel) ⟨ok_Mod_applyNow, by decide, by decide +kernel⟩ rfl w_580 w_581 w_582 (by decide) rfl rfl rfl (Nat.le_of_ble_eq_true rfl) fun x2 => ?_
        refine zG_run t_Mod [(.pop, 0, 0)] (92, [some (zr (some (11, 333))), some (zi x1.1), none], [], x2.2) (by decide +kernel) rfl ?_
        exact zG_ret (r := none) rfl (zrd_v rfl (by decide +kernel))
      · refine zG_run t_Mod [(.aload_n 0, 0, 0), (.getfield 74, 11, 14), (.iconst 0, 0, 0), (.aload_n 0, 0, 0), (.bipush 64, 0, 0)] (60, [some (zr (some (11, 333))), some (zi x1.1), none], [zi 64, zr (some (11, 333)), zi 0, zr (some (73, 347))], x1.2) (by decide +kernel) rfl ?_
        refine zG_callV (idx := 474) (R := (fun a => (some (zi a.1), a.2))) (as := [zi 64]) (rest := [zi 0, zr (some (73, 347))]) (n := 1) (fun a ha => c_Mod_draw hl ha) (by decide +kernel) ⟨ok_Mod_draw, by decide, by decide +kernel⟩ rfl w_598 w_599 w_600 (by decide) rfl rfl rfl (Nat.le_of_ble_eq_true rfl) fun x3 => ?_
        refine zG_run t_Mod [(.aload_n 0, 0, 0)] (64, [some (zr (some (11, 333))), some (zi x1.1), none], [zr (some (11, 333)), zi x3.1, zi 0, zr (some (73, 347))], x3.2) (by decide +kernel) rfl ?_
        refine zG_callV (idx := 323) (R := (fun a => (some (zi a), x3.2))) (as := []) (rest := [zi x3.1, zi 0, zr (some (73, 347))]) (n := 0) (fun a ha => c_Mod_rows hl ha) (by decide +kernel) ⟨ok_Mod_rows, by decide, by decide +kernel⟩ rfl w_449 w_450 w_451 (by decide) rfl rfl rfl (Nat.le_of_ble_eq_true rfl) fun x4 => ?_
        refine zG_run t_Mod [(.iconst 1, 0, 0), (.isub, 0, 0), (.iand, 0, 0)] (70, [some (zr (some (11, 333))), some (zi x1.1), none], [zi (x3.1 &&& (x4 - 1)), zi 0, zr (some (73, 347))], x3.2) (by decide +kernel) rfl ?_
        refine zG_bind (fun y => (71, [some (zr (some (11, 333))), some (zi x1.1), none], [], y)) (zG_astc (h' := zsI x3.2 347 0 (x3.1 &&& (x4 - 1))) rfl (by decide +kernel) (by decide +kernel) rfl (zG_end (L' := [some (zr (some (11, 333))), some (zi x1.1), none]) rfl (And.intro rfl (And.intro rfl trivial)))) fun h5 => ?_
        refine zG_run t_Mod [(.aload_n 0, 0, 0), (.getfield 74, 11, 14), (.iconst 1, 0, 0), (.dup2, 0, 0)] (77, [some (zr (some (11, 333))), some (zi x1.1), none], [zi 1, zr (some (73, 347)), zi 1, zr (some (73, 347))], h5) (by decide +kernel) rfl ?_
        refine zG_aldc (v := zi (h5.1 347 1)) rfl (by decide +kernel) (by decide +kernel) rfl ?_
        refine zG_run t_Mod [(.aload_n 0, 0, 0)] (79, [some (zr (some (11, 333))), some (zi x1.1), none], [zr (some (11, 333)), zi (h5.1 347 1), zi 1, zr (some (73, 347))], h5) (by decide +kernel) rfl ?_
        refine zG_callV (idx := 452) (R := (fun a => (some (zi a), h5))) (as := []) (rest := [zi (h5.1 347 1), zi 1, zr (some (73, 347))]) (n := 0) (fun a ha => c_Mod_longest hl ha) (by decide +kernel) ⟨ok_Mod_longest, by decide, by decide +kernel⟩ rfl w_577 w_578 w_579 (by decide) rfl rfl rfl (Nat.le_of_ble_eq_true rfl) fun x6 => ?_
        refine zG_run t_Mod [(.iadd, 0, 0)] (83, [some (zr (some (11, 333))), some (zi x1.1), none], [zi ((h5.1 347 1) + x6), zi 1, zr (some (73, 347))], h5) (by decide +kernel) rfl ?_
        refine zG_bind (fun y => (84, [some (zr (some (11, 333))), some (zi x1.1), none], [], y)) (zG_astc (h' := zsI h5 347 1 ((h5.1 347 1) + x6)) rfl (by decide +kernel) (by decide +kernel) rfl (zG_end (L' := [some (zr (some (11, 333))), some (zi x1.1), none]) rfl (And.intro rfl (And.intro rfl trivial)))) fun h7 => ?_
        refine zG_run t_Mod [(.goto 8, 0, 0)] (92, [some (zr (some (11, 333))), some (zi x1.1), none], [], h7) (by decide +kernel) rfl ?_
        exact zG_ret (r := none) rfl (zrd_v rfl (by decide +kernel))
    · refine zG_run t_Mod [(.aload_n 0, 0, 0)] (41, [some (zr (some (11, 333))), some (zi x1.1), none], [zr (some (11, 333))], x1.2) (by decide +kernel) rfl ?_
      refine zG_callV (idx := 444) (R := (fun a => (none, a))) (as := []) (rest := []) (n := 0) (fun a ha => c_Mod_takeNow hl ha) (by decide +kernel) ⟨ok_Mod_takeNow, by decide, by decide +kernel⟩ rfl w_573 w_574 w_575 (by decide) rfl rfl rfl (Nat.le_of_ble_eq_true rfl) fun x9 => ?_
      refine zG_run t_Mod [(.goto 48, 0, 0)] (92, [some (zr (some (11, 333))), some (zi x1.1), none], [], x9) (by decide +kernel) rfl ?_
      exact zG_ret (r := none) rfl (zrd_v rfl (by decide +kernel))
  · refine zG_run t_Mod [(.aload_n 0, 0, 0), (.bipush 8, 0, 0)] (13, [some (zr (some (11, 333))), some (zi x1.1), none], [zi 8, zr (some (11, 333))], x1.2) (by decide +kernel) rfl ?_
    refine zG_callV (idx := 474) (R := (fun a => (some (zi a.1), a.2))) (as := [zi 8]) (rest := []) (n := 1) (fun a ha => c_Mod_draw hl ha) (by decide +kernel) ⟨ok_Mod_draw, by decide, by decide +kernel⟩ rfl w_598 w_599 w_600 (by decide) rfl rfl rfl (Nat.le_of_ble_eq_true rfl) fun x11 => ?_
    refine zG_run t_Mod [(.istore_n 2, 0, 0), (.aload_n 0, 0, 0), (.getfield 40, 11, 3), (.iconst 2, 0, 0)] (22, [some (zr (some (11, 333))), some (zi x1.1), some (zi x11.1)], [zi 2, zr (some (62, 336))], x11.2) (by decide +kernel) rfl ?_
    refine zG_aldc (v := zi (x11.2.1 336 2)) rfl (by decide +kernel) (by decide +kernel) rfl ?_
    refine zG_if (op := .le) (off := 9) (tgt := 32) (by decide +kernel) rfl Iff.rfl (fun c13 => ?_) (fun c13 => ?_)
    · refine zG_run t_Mod [(.goto 60, 0, 0)] (92, [some (zr (some (11, 333))), some (zi x1.1), some (zi x11.1)], [], x11.2) (by decide +kernel) rfl ?_
      exact zG_ret (r := none) rfl (zrd_v rfl (by decide +kernel))
    · refine zG_run t_Mod [(.aload_n 0, 0, 0), (.iload_n 2, 0, 0)] (28, [some (zr (some (11, 333))), some (zi x1.1), some (zi x11.1)], [zi x11.1, zr (some (11, 333))], x11.2) (by decide +kernel) rfl ?_
      refine zG_callV (idx := 438) (R := (fun a => (some (zi a.1), a.2))) (as := [zi x11.1]) (rest := []) (n := 1) (fun a ha => c_Mod_shiftNow hl ha) (by decide +kernel) ⟨ok_Mod_shiftNow, by decide, by decide +kernel⟩ rfl w_567 w_568 w_569 (by decide) rfl rfl rfl (Nat.le_of_ble_eq_true rfl) fun x12 => ?_
      refine zG_run t_Mod [(.pop, 0, 0), (.goto 60, 0, 0)] (92, [some (zr (some (11, 333))), some (zi x1.1), some (zi x11.1)], [], x12.2) (by decide +kernel) rfl ?_
      exact zG_ret (r := none) rfl (zrd_v rfl (by decide +kernel))
theorem c_Mod_happen {l : Launch} {X : zX} (hl : l.stackTraces = false) {h : zH} {x : zH} (hx : f_Mod_happen h = some x) : zCt l (true, 2) 2 m_Mod_happen X 0 0 [zr (some (11, 333))] h ((fun a => (.inl none, a) : zH → zF) x) :=
  zG_ct (R := fun a => (.inl none, a)) (x := x) ok_Mod_happen hl (Nat.le_of_ble_eq_true rfl) hx (k_Mod_happen hl)
def m_Mod_copyTo_73_99 : zM := (({ cls := "ScanPackerModel", name := "copyTo", desc := "([I[I)V" } : Jvm.MethodName), prog_13_method_80_code, 3, (Option.none : Option Jvm.ClassFile.FieldType), [], 1)
theorem ok_Mod_copyTo_73_99 : zMok m_Mod_copyTo_73_99 := ⟨by decide +kernel, zW_of 2054 (by decide +kernel) (by decide +kernel), zW_of 134 (by decide +kernel) (by decide +kernel), by decide, by decide +kernel, by decide +kernel⟩
set_option maxRecDepth 20000 in
theorem k_Mod_copyTo_73_99_b2 {l : Launch} {X : zX} (hl : l.stackTraces = false) {h : zH} {v2 : Int32} : zGl l m_Mod_copyTo_73_99 X 0 0 (f_Mod_copyTo_73_99_b2 h v2) (2, [some (zr (some (73, 347))), some (zr (some (99, 373))), some (zi v2)], [], h) (Sum.elim (fun s : Int32 × zH => .inl (2, [some (zr (some (73, 347))), some (zr (some (99, 373))), some (zi s.1)], [], s.2)) (fun y : zH => .inl (20, [none, none, none], [], y))) := by
  unfold f_Mod_copyTo_73_99_b2
  refine zG_run t_Mod [(.iload_n 2, 0, 0), (.aload_n 0, 0, 0)] (4, [some (zr (some (73, 347))), some (zr (some (99, 373))), some (zi v2)], [zr (some (73, 347)), zi v2], h) (by decide +kernel) rfl ?_
  refine zG_alen (v := 57) rfl (by decide +kernel) rfl ?_
  refine zG_icmp (op := .ge) (off := 15) (tgt := 20) (by decide +kernel) rfl Iff.rfl (fun c4 => ?_) (fun c4 => ?_)
  · exact zG_end (L' := [none, none, none]) rfl (trivial)
  · refine zG_run t_Mod [(.aload_n 0, 0, 0), (.iload_n 2, 0, 0), (.aload_n 1, 0, 0), (.iload_n 2, 0, 0)] (12, [some (zr (some (73, 347))), some (zr (some (99, 373))), some (zi v2)], [zi v2, zr (some (99, 373)), zi v2, zr (some (73, 347))], h) (by decide +kernel) rfl ?_
    refine zG_ald (v := zi (h.1 373 v2.toNatClampNeg)) (n := 57) rfl (by decide +kernel) rfl rfl fun hb1 => ?_
    refine zG_guard fun hb3 => ?_
    refine zG_bind (fun y => (14, [some (zr (some (73, 347))), some (zr (some (99, 373))), some (zi v2)], [], y)) (zG_astc (h' := zsI h 347 v2.toNatClampNeg (h.1 373 v2.toNatClampNeg)) rfl (by decide +kernel) hb3 rfl (zG_end (L' := [some (zr (some (73, 347))), some (zr (some (99, 373))), some (zi v2)]) rfl (And.intro rfl (And.intro rfl (And.intro rfl trivial))))) fun h2 => ?_
    refine zG_run t_Mod [(.iinc 2 1, 0, 0), (.goto (-15), 0, 0)] (2, [some (zr (some (73, 347))), some (zr (some (99, 373))), some (zi (v2 + 1))], [], h2) (by decide +kernel) rfl ?_
    exact zG_end (L' := [some (zr (some (73, 347))), some (zr (some (99, 373))), some (zi (v2 + 1))]) rfl (And.intro rfl (And.intro rfl (And.intro rfl trivial)))
set_option maxRecDepth 20000 in
theorem k_Mod_copyTo_73_99 {l : Launch} {X : zX} (hl : l.stackTraces = false) {h : zH} : zGl l m_Mod_copyTo_73_99 X 0 0 (f_Mod_copyTo_73_99 h) (0, [some (zr (some (73, 347))), some (zr (some (99, 373))), none], [], h) (fun x => .inr ((fun a => (.inl none, a) : zH → zF) x)) := by
  unfold f_Mod_copyTo_73_99
  refine zG_run t_Mod [(.iconst 0, 0, 0), (.istore_n 2, 0, 0)] (2, [some (zr (some (73, 347))), some (zr (some (99, 373))), some (zi 0)], [], h) (by decide +kernel) rfl ?_
  refine zG_forget (L' := [some (zr (some (73, 347))), some (zr (some (99, 373))), some (zi 0)]) (And.intro rfl (And.intro rfl (And.intro rfl trivial))) ?_
  refine zG_bind (fun y : zH => (20, [none, none, none], [], y)) (zG_iter (fun s : Int32 × zH => (2, [some (zr (some (73, 347))), some (zr (some (99, 373))), some (zi s.1)], [], s.2)) fun s => k_Mod_copyTo_73_99_b2 hl) (fun y6 => ?_)
  exact zG_ret (r := none) rfl (zrd_v rfl (by decide +kernel))
theorem c_Mod_copyTo_73_99 {l : Launch} {X : zX} (hl : l.stackTraces = false) {h : zH} {x : zH} (hx : f_Mod_copyTo_73_99 h = some x) : zCt l (true, 2) 2 m_Mod_copyTo_73_99 X 0 0 [zr (some (73, 347)), zr (some (99, 373))] h ((fun a => (.inl none, a) : zH → zF) x) :=
  zG_ct (R := fun a => (.inl none, a)) (x := x) ok_Mod_copyTo_73_99 hl (Nat.le_of_ble_eq_true rfl) hx (k_Mod_copyTo_73_99 hl)
def m_Mod_years : zM := (({ cls := "ScanPackerModel", name := "years", desc := "(III)I" } : Jvm.MethodName), prog_13_method_111_code, 5, (Option.some Jvm.ClassFile.FieldType.int), [], 6)
theorem ok_Mod_years : zMok m_Mod_years := ⟨by decide +kernel, zW_of 2051 (by decide +kernel) (by decide +kernel), zW_of 134 (by decide +kernel) (by decide +kernel), by decide, by decide +kernel, by decide +kernel⟩
set_option maxRecDepth 20000 in
theorem k_Mod_years_b55 {l : Launch} {X : zX} (hl : l.stackTraces = false) {h : zH} {v2 : Int32} {v3 : Int32} {v4 : Int32} : zGl l m_Mod_years X 0 0 (f_Mod_years_b55 h v2 v3 v4) (55, [some (zr (some (11, 333))), none, some (zi v2), some (zi v3), some (zi v4)], [], h) (Sum.elim (fun s : Int32 × zH => .inl (55, [some (zr (some (11, 333))), none, some (zi v2), some (zi v3), some (zi s.1)], [], s.2)) (fun y : zH => .inl (71, [some (zr (some (11, 333))), none, none, some (zi v3), none], [], y))) := by
  unfold f_Mod_years_b55
  refine zG_run t_Mod [(.iload 4, 0, 0), (.iload_n 2, 0, 0)] (58, [some (zr (some (11, 333))), none, some (zi v2), some (zi v3), some (zi v4)], [zi v2, zi v4], h) (by decide +kernel) rfl ?_
  refine zG_icmp (op := .ge) (off := 13) (tgt := 71) (by decide +kernel) rfl Iff.rfl (fun c7 => ?_) (fun c7 => ?_)
  · exact zG_end (L' := [some (zr (some (11, 333))), none, none, some (zi v3), none]) rfl (And.intro rfl (And.intro rfl trivial))
  · refine zG_run t_Mod [(.aload_n 0, 0, 0)] (62, [some (zr (some (11, 333))), none, some (zi v2), some (zi v3), some (zi v4)], [zr (some (11, 333))], h) (by decide +kernel) rfl ?_
    refine zG_callV (idx := 481) (R := (fun a => (none, a))) (as := []) (rest := []) (n := 0) (fun a ha => c_Mod_happen hl ha) (by decide +kernel) ⟨ok_Mod_happen, by decide, by decide +kernel⟩ rfl w_601 w_602 w_603 (by decide) rfl rfl rfl (Nat.le_of_ble_eq_true rfl) fun x6 => ?_
    refine zG_run t_Mod [(.iinc 4 1, 0, 0), (.goto (-13), 0, 0)] (55, [some (zr (some (11, 333))), none, some (zi v2), some (zi v3), some (zi (v4 + 1))], [], x6) (by decide +kernel) rfl ?_
    exact zG_end (L' := [some (zr (some (11, 333))), none, some (zi v2), some (zi v3), some (zi (v4 + 1))]) rfl (And.intro rfl (And.intro rfl (And.intro rfl (And.intro rfl trivial))))
set_option maxRecDepth 20000 in
theorem k_Mod_years_j109 {l : Launch} {X : zX} (hl : l.stackTraces = false) {h : zH} {t0 : Int32} : zGl l m_Mod_years X 0 0 (f_Mod_years_j109 h t0) (109, [some (zr (some (11, 333))), none, none, none, none], [zi t0], h) (fun x => .inr ((fun a => (.inl (some (zi a.1)), a.2) : Int32 × zH → zF) x)) := by
  unfold f_Mod_years_j109
  refine zG_run t_Mod [(.istore 4, 0, 0), (.aload_n 0, 0, 0), (.getfield 74, 11, 14), (.aload_n 0, 0, 0), (.getfield 157, 11, 54)] (119, [some (zr (some (11, 333))), none, none, none, some (zi t0)], [zr (some (99, 373)), zr (some (73, 347))], h) (by decide +kernel) rfl ?_
  refine zG_callS (idx := 477) (R := (fun a => (none, a))) (as := [zr (some (73, 347)), zr (some (99, 373))]) (rest := []) (n := 2) (fun a ha => c_Mod_copyTo_73_99 hl ha) (by decide +kernel) ⟨ok_Mod_copyTo_73_99, by decide, by decide +kernel⟩ rfl w_595 w_596 rfl rfl (Nat.le_of_ble_eq_true rfl) fun x10 => ?_
  refine zG_run t_Mod [(.iload 4, 0, 0)] (124, [some (zr (some (11, 333))), none, none, none, some (zi t0)], [zi t0], x10) (by decide +kernel) rfl ?_
  exact zG_ret (r := some (zi t0)) rfl (zrd_i rfl (by decide +kernel))
set_option maxRecDepth 20000 in
theorem k_Mod_years {l : Launch} {X : zX} (hl : l.stackTraces = false) {h : zH} {v1 : Int32} {v2 : Int32} {v3 : Int32} : zGl l m_Mod_years X 0 0 (f_Mod_years h v1 v2 v3) (0, [some (zr (some (11, 333))), some (zi v1), some (zi v2), some (zi v3), none], [], h) (fun x => .inr ((fun a => (.inl (some (zi a.1)), a.2) : Int32 × zH → zF) x)) := by
  unfold f_Mod_years
  refine zG_bind (fun y => (5, [some (zr (some (11, 333))), some (zi v1), some (zi v2), some (zi v3), none], [], y)) (zG_run t_Mod [(.aload_n 0, 0, 0), (.iconst 0, 0, 0), (.putfield 181, 11, 2)] (5, [some (zr (some (11, 333))), some (zi v1), some (zi v2), some (zi v3), none], [], zsI h 333 2 0) (by decide +kernel) rfl (zG_end (L' := [some (zr (some (11, 333))), some (zi v1), some (zi v2), some (zi v3), none]) rfl (And.intro rfl (And.intro rfl (And.intro rfl (And.intro rfl trivial)))))) fun h1 => ?_
  refine zG_run t_Mod [(.iload_n 3, 0, 0), (.iconst 0, 0, 0), (.iconst 2, 0, 0)] (8, [some (zr (some (11, 333))), some (zi v1), some (zi v2), some (zi v3), none], [zi 2, zi 0, zi v3], h1) (by decide +kernel) rfl ?_
  refine zG_callS (idx := 391) (R := (fun a => (some (zi a), h1))) (as := [zi v3, zi 0, zi 2]) (rest := []) (n := 3) (fun a ha => c_Mod_isIn hl ha) (by decide +kernel) ⟨ok_Mod_isIn, by decide, by decide +kernel⟩ rfl w_526 w_527 rfl rfl (Nat.le_of_ble_eq_true rfl) fun x2 => ?_
  refine zG_if (op := .ne) (off := 9) (tgt := 20) (by decide +kernel) rfl Iff.rfl (fun c17 => ?_) (fun c17 => ?_)
  · refine zG_run t_Mod [(.iload_n 2, 0, 0), (.iconst 0, 0, 0), (.bipush 60, 0, 0)] (24, [some (zr (some (11, 333))), some (zi v1), some (zi v2), some (zi v3), none], [zi 60, zi 0, zi v2], h1) (by decide +kernel) rfl ?_
    refine zG_callS (idx := 391) (R := (fun a => (some (zi a), h1))) (as := [zi v2, zi 0, zi 60]) (rest := []) (n := 3) (fun a ha => c_Mod_isIn hl ha) (by decide +kernel) ⟨ok_Mod_isIn, by decide, by decide +kernel⟩ rfl w_526 w_527 rfl rfl (Nat.le_of_ble_eq_true rfl) fun x3 => ?_
    refine zG_if (op := .ne) (off := 9) (tgt := 36) (by decide +kernel) rfl Iff.rfl (fun c15 => ?_) (fun c15 => ?_)
    · refine zG_run t_Mod [(.aload_n 0, 0, 0), (.getfield 157, 11, 54), (.aload_n 0, 0, 0), (.getfield 74, 11, 14)] (44, [some (zr (some (11, 333))), some (zi v1), some (zi v2), some (zi v3), none], [zr (some (73, 347)), zr (some (99, 373))], h1) (by decide +kernel) rfl ?_
      refine zG_callS (idx := 477) (R := (fun a => (none, a))) (as := [zr (some (99, 373)), zr (some (73, 347))]) (rest := []) (n := 2) (fun a ha => c_Mod_copyTo_99_73 hl ha) (by decide +kernel) ⟨ok_Mod_copyTo_99_73, by decide, by decide +kernel⟩ rfl w_595 w_596 rfl rfl (Nat.le_of_ble_eq_true rfl) fun x4 => ?_
      refine zG_bind (fun y => (52, [some (zr (some (11, 333))), some (zi v1), some (zi v2), some (zi v3), none], [], y)) (zG_run t_Mod [(.aload_n 0, 0, 0), (.iload_n 1, 0, 0), (.putfield 470, 11, 53)] (52, [some (zr (some (11, 333))), some (zi v1), some (zi v2), some (zi v3), none], [], zsI x4 333 53 v1) (by decide +kernel) rfl (zG_end (L' := [some (zr (some (11, 333))), some (zi v1), some (zi v2), some (zi v3), none]) rfl (And.intro rfl (And.intro rfl (And.intro rfl (And.intro rfl trivial)))))) fun h5 => ?_
      refine zG_run t_Mod [(.iconst 0, 0, 0), (.istore 4, 0, 0)] (55, [some (zr (some (11, 333))), some (zi v1), some (zi v2), some (zi v3), some (zi 0)], [], h5) (by decide +kernel) rfl ?_
      refine zG_forget (L' := [some (zr (some (11, 333))), none, some (zi v2), some (zi v3), some (zi 0)]) (And.intro rfl (And.intro rfl (And.intro rfl (And.intro rfl trivial)))) ?_
      refine zG_bind (fun y : zH => (71, [some (zr (some (11, 333))), none, none, some (zi v3), none], [], y)) (zG_iter (fun s : Int32 × zH => (55, [some (zr (some (11, 333))), none, some (zi v2), some (zi v3), some (zi s.1)], [], s.2)) fun s => k_Mod_years_b55 hl) (fun y9 => ?_)
      refine zG_run t_Mod [(.iload_n 3, 0, 0)] (72, [some (zr (some (11, 333))), none, none, some (zi v3), none], [zi v3], y9) (by decide +kernel) rfl ?_
      refine zG_if (op := .ne) (off := 10) (tgt := 82) (by decide +kernel) rfl Iff.rfl (fun c13 => ?_) (fun c13 => ?_)
      · refine zG_run t_Mod [(.iload_n 3, 0, 0), (.iconst 1, 0, 0)] (84, [some (zr (some (11, 333))), none, none, some (zi v3), none], [zi 1, zi v3], y9) (by decide +kernel) rfl ?_
        refine zG_icmp (op := .ne) (off := 19) (tgt := 103) (by decide +kernel) rfl Iff.rfl (fun c11 => ?_) (fun c11 => ?_)
        · refine zG_run t_Mod [(.aload_n 0, 0, 0), (.getfield 74, 11, 14), (.iconst 0, 0, 0)] (108, [some (zr (some (11, 333))), none, none, some (zi v3), none], [zi 0, zr (some (73, 347))], y9) (by decide +kernel) rfl ?_
          refine zG_aldc (v := zi (y9.1 347 0)) rfl (by decide +kernel) (by decide +kernel) rfl ?_
          exact zG_forget (L' := [some (zr (some (11, 333))), none, none, none, none]) (And.intro rfl trivial) (k_Mod_years_j109 hl)
        · refine zG_run t_Mod [(.aload_n 0, 0, 0), (.getfield 74, 11, 14), (.iconst 1, 0, 0)] (92, [some (zr (some (11, 333))), none, none, some (zi v3), none], [zi 1, zr (some (73, 347))], y9) (by decide +kernel) rfl ?_
          refine zG_aldc (v := zi (y9.1 347 1)) rfl (by decide +kernel) (by decide +kernel) rfl ?_
          refine zG_run t_Mod [(.aload_n 0, 0, 0), (.getfield 157, 11, 54), (.iconst 1, 0, 0)] (98, [some (zr (some (11, 333))), none, none, some (zi v3), none], [zi 1, zr (some (99, 373)), zi (y9.1 347 1)], y9) (by decide +kernel) rfl ?_
          refine zG_aldc (v := zi (y9.1 373 1)) rfl (by decide +kernel) (by decide +kernel) rfl ?_
          refine zG_run t_Mod [(.isub, 0, 0), (.goto 9, 0, 0)] (109, [some (zr (some (11, 333))), none, none, some (zi v3), none], [zi ((y9.1 347 1) - (y9.1 373 1))], y9) (by decide +kernel) rfl ?_
          exact zG_forget (L' := [some (zr (some (11, 333))), none, none, none, none]) (And.intro rfl trivial) (k_Mod_years_j109 hl)
      · refine zG_run t_Mod [(.aload_n 0, 0, 0)] (76, [some (zr (some (11, 333))), none, none, some (zi v3), none], [zr (some (11, 333))], y9) (by decide +kernel) rfl ?_
        refine zG_callV (idx := 385) (R := (fun a => (some (zi a), y9))) (as := []) (rest := []) (n := 0) (fun a ha => c_Mod_doneMany hl ha) (by decide +kernel) ⟨ok_Mod_doneMany, by decide, by decide +kernel⟩ rfl w_505 w_506 w_507 (by decide) rfl rfl rfl (Nat.le_of_ble_eq_true rfl) fun x12 => ?_
        refine zG_run t_Mod [(.goto 30, 0, 0)] (109, [some (zr (some (11, 333))), none, none, some (zi v3), none], [zi x12], y9) (by decide +kernel) rfl ?_
        exact zG_forget (L' := [some (zr (some (11, 333))), none, none, none, none]) (And.intro rfl trivial) (k_Mod_years_j109 hl)
    · refine zG_run t_Mod [(.aload_n 0, 0, 0), (.iconst 2, 0, 0)] (32, [some (zr (some (11, 333))), some (zi v1), some (zi v2), some (zi v3), none], [zi 2, zr (some (11, 333))], h1) (by decide +kernel) rfl ?_
      refine zG_callV (idx := 288) (R := (fun a => (some (zi a.1), a.2))) (as := [zi 2]) (rest := []) (n := 1) (fun a ha => c_Mod_fail hl ha) (by decide +kernel) ⟨ok_Mod_fail, by decide, by decide +kernel⟩ rfl w_378 w_379 w_380 (by decide) rfl rfl rfl (Nat.le_of_ble_eq_true rfl) fun x14 => ?_
      exact zG_ret (r := some (zi x14.1)) rfl (zrd_i rfl (by decide +kernel))
  · refine zG_run t_Mod [(.aload_n 0, 0, 0), (.iconst 1, 0, 0)] (16, [some (zr (some (11, 333))), some (zi v1), some (zi v2), some (zi v3), none], [zi 1, zr (some (11, 333))], h1) (by decide +kernel) rfl ?_
    refine zG_callV (idx := 288) (R := (fun a => (some (zi a.1), a.2))) (as := [zi 1]) (rest := []) (n := 1) (fun a ha => c_Mod_fail hl ha) (by decide +kernel) ⟨ok_Mod_fail, by decide, by decide +kernel⟩ rfl w_378 w_379 w_380 (by decide) rfl rfl rfl (Nat.le_of_ble_eq_true rfl) fun x16 => ?_
    exact zG_ret (r := some (zi x16.1)) rfl (zrd_i rfl (by decide +kernel))
theorem c_Mod_years {l : Launch} {X : zX} (hl : l.stackTraces = false) {h : zH} {v1 : Int32} {v2 : Int32} {v3 : Int32} {x : Int32 × zH} (hx : f_Mod_years h v1 v2 v3 = some x) : zCt l (true, 2) 2 m_Mod_years X 0 0 [zr (some (11, 333)), zi v1, zi v2, zi v3] h ((fun a => (.inl (some (zi a.1)), a.2) : Int32 × zH → zF) x) :=
  zG_ct (R := fun a => (.inl (some (zi a.1)), a.2)) (x := x) ok_Mod_years hl (Nat.le_of_ble_eq_true rfl) hx (k_Mod_years hl)
def m_Mod_copyTo_100_73 : zM := (({ cls := "ScanPackerModel", name := "copyTo", desc := "([I[I)V" } : Jvm.MethodName), prog_13_method_80_code, 3, (Option.none : Option Jvm.ClassFile.FieldType), [], 1)
theorem ok_Mod_copyTo_100_73 : zMok m_Mod_copyTo_100_73 := ⟨by decide +kernel, zW_of 2054 (by decide +kernel) (by decide +kernel), zW_of 134 (by decide +kernel) (by decide +kernel), by decide, by decide +kernel, by decide +kernel⟩
set_option maxRecDepth 20000 in
theorem k_Mod_copyTo_100_73_b2 {l : Launch} {X : zX} (hl : l.stackTraces = false) {h : zH} {v2 : Int32} : zGl l m_Mod_copyTo_100_73 X 0 0 (f_Mod_copyTo_100_73_b2 h v2) (2, [some (zr (some (100, 374))), some (zr (some (73, 347))), some (zi v2)], [], h) (Sum.elim (fun s : Int32 × zH => .inl (2, [some (zr (some (100, 374))), some (zr (some (73, 347))), some (zi s.1)], [], s.2)) (fun y : zH => .inl (20, [none, none, none], [], y))) := by
  unfold f_Mod_copyTo_100_73_b2
  refine zG_run t_Mod [(.iload_n 2, 0, 0), (.aload_n 0, 0, 0)] (4, [some (zr (some (100, 374))), some (zr (some (73, 347))), some (zi v2)], [zr (some (100, 374)), zi v2], h) (by decide +kernel) rfl ?_
  refine zG_alen (v := 57) rfl (by decide +kernel) rfl ?_
  refine zG_icmp (op := .ge) (off := 15) (tgt := 20) (by decide +kernel) rfl Iff.rfl (fun c4 => ?_) (fun c4 => ?_)
  · exact zG_end (L' := [none, none, none]) rfl (trivial)
  · refine zG_run t_Mod [(.aload_n 0, 0, 0), (.iload_n 2, 0, 0), (.aload_n 1, 0, 0), (.iload_n 2, 0, 0)] (12, [some (zr (some (100, 374))), some (zr (some (73, 347))), some (zi v2)], [zi v2, zr (some (73, 347)), zi v2, zr (some (100, 374))], h) (by decide +kernel) rfl ?_
    refine zG_ald (v := zi (h.1 347 v2.toNatClampNeg)) (n := 57) rfl (by decide +kernel) rfl rfl fun hb1 => ?_
    refine zG_guard fun hb3 => ?_
    refine zG_bind (fun y => (14, [some (zr (some (100, 374))), some (zr (some (73, 347))), some (zi v2)], [], y)) (zG_astc (h' := zsI h 374 v2.toNatClampNeg (h.1 347 v2.toNatClampNeg)) rfl (by decide +kernel) hb3 rfl (zG_end (L' := [some (zr (some (100, 374))), some (zr (some (73, 347))), some (zi v2)]) rfl (And.intro rfl (And.intro rfl (And.intro rfl trivial))))) fun h2 => ?_
    refine zG_run t_Mod [(.iinc 2 1, 0, 0), (.goto (-15), 0, 0)] (2, [some (zr (some (100, 374))), some (zr (some (73, 347))), some (zi (v2 + 1))], [], h2) (by decide +kernel) rfl ?_
    exact zG_end (L' := [some (zr (some (100, 374))), some (zr (some (73, 347))), some (zi (v2 + 1))]) rfl (And.intro rfl (And.intro rfl (And.intro rfl trivial)))
set_option maxRecDepth 20000 in
theorem k_Mod_copyTo_100_73 {l : Launch} {X : zX} (hl : l.stackTraces = false) {h : zH} : zGl l m_Mod_copyTo_100_73 X 0 0 (f_Mod_copyTo_100_73 h) (0, [some (zr (some (100, 374))), some (zr (some (73, 347))), none], [], h) (fun x => .inr ((fun a => (.inl none, a) : zH → zF) x)) := by
  unfold f_Mod_copyTo_100_73
  refine zG_run t_Mod [(.iconst 0, 0, 0), (.istore_n 2, 0, 0)] (2, [some (zr (some (100, 374))), some (zr (some (73, 347))), some (zi 0)], [], h) (by decide +kernel) rfl ?_
  refine zG_forget (L' := [some (zr (some (100, 374))), some (zr (some (73, 347))), some (zi 0)]) (And.intro rfl (And.intro rfl (And.intro rfl trivial))) ?_
  refine zG_bind (fun y : zH => (20, [none, none, none], [], y)) (zG_iter (fun s : Int32 × zH => (2, [some (zr (some (100, 374))), some (zr (some (73, 347))), some (zi s.1)], [], s.2)) fun s => k_Mod_copyTo_100_73_b2 hl) (fun y6 => ?_)
  exact zG_ret (r := none) rfl (zrd_v rfl (by decide +kernel))
theorem c_Mod_copyTo_100_73 {l : Launch} {X : zX} (hl : l.stackTraces = false) {h : zH} {x : zH} (hx : f_Mod_copyTo_100_73 h = some x) : zCt l (true, 2) 2 m_Mod_copyTo_100_73 X 0 0 [zr (some (100, 374)), zr (some (73, 347))] h ((fun a => (.inl none, a) : zH → zF) x) :=
  zG_ct (R := fun a => (.inl none, a)) (x := x) ok_Mod_copyTo_100_73 hl (Nat.le_of_ble_eq_true rfl) hx (k_Mod_copyTo_100_73 hl)
def m_Mod_copyTo_101_93 : zM := (({ cls := "ScanPackerModel", name := "copyTo", desc := "([I[I)V" } : Jvm.MethodName), prog_13_method_80_code, 3, (Option.none : Option Jvm.ClassFile.FieldType), [], 1)
theorem ok_Mod_copyTo_101_93 : zMok m_Mod_copyTo_101_93 := ⟨by decide +kernel, zW_of 2054 (by decide +kernel) (by decide +kernel), zW_of 134 (by decide +kernel) (by decide +kernel), by decide, by decide +kernel, by decide +kernel⟩
set_option maxRecDepth 20000 in
theorem k_Mod_copyTo_101_93_b2 {l : Launch} {X : zX} (hl : l.stackTraces = false) {h : zH} {v2 : Int32} : zGl l m_Mod_copyTo_101_93 X 0 0 (f_Mod_copyTo_101_93_b2 h v2) (2, [some (zr (some (101, 375))), some (zr (some (93, 367))), some (zi v2)], [], h) (Sum.elim (fun s : Int32 × zH => .inl (2, [some (zr (some (101, 375))), some (zr (some (93, 367))), some (zi s.1)], [], s.2)) (fun y : zH => .inl (20, [none, none, none], [], y))) := by
  unfold f_Mod_copyTo_101_93_b2
  refine zG_run t_Mod [(.iload_n 2, 0, 0), (.aload_n 0, 0, 0)] (4, [some (zr (some (101, 375))), some (zr (some (93, 367))), some (zi v2)], [zr (some (101, 375)), zi v2], h) (by decide +kernel) rfl ?_
  refine zG_alen (v := 2280) rfl (by decide +kernel) rfl ?_
  refine zG_icmp (op := .ge) (off := 15) (tgt := 20) (by decide +kernel) rfl Iff.rfl (fun c4 => ?_) (fun c4 => ?_)
  · exact zG_end (L' := [none, none, none]) rfl (trivial)
  · refine zG_run t_Mod [(.aload_n 0, 0, 0), (.iload_n 2, 0, 0), (.aload_n 1, 0, 0), (.iload_n 2, 0, 0)] (12, [some (zr (some (101, 375))), some (zr (some (93, 367))), some (zi v2)], [zi v2, zr (some (93, 367)), zi v2, zr (some (101, 375))], h) (by decide +kernel) rfl ?_
    refine zG_ald (v := zi (h.1 367 v2.toNatClampNeg)) (n := 2280) rfl (by decide +kernel) rfl rfl fun hb1 => ?_
    refine zG_guard fun hb3 => ?_
    refine zG_bind (fun y => (14, [some (zr (some (101, 375))), some (zr (some (93, 367))), some (zi v2)], [], y)) (zG_astc (h' := zsI h 375 v2.toNatClampNeg (h.1 367 v2.toNatClampNeg)) rfl (by decide +kernel) hb3 rfl (zG_end (L' := [some (zr (some (101, 375))), some (zr (some (93, 367))), some (zi v2)]) rfl (And.intro rfl (And.intro rfl (And.intro rfl trivial))))) fun h2 => ?_
    refine zG_run t_Mod [(.iinc 2 1, 0, 0), (.goto (-15), 0, 0)] (2, [some (zr (some (101, 375))), some (zr (some (93, 367))), some (zi (v2 + 1))], [], h2) (by decide +kernel) rfl ?_
    exact zG_end (L' := [some (zr (some (101, 375))), some (zr (some (93, 367))), some (zi (v2 + 1))]) rfl (And.intro rfl (And.intro rfl (And.intro rfl trivial)))
set_option maxRecDepth 20000 in
theorem k_Mod_copyTo_101_93 {l : Launch} {X : zX} (hl : l.stackTraces = false) {h : zH} : zGl l m_Mod_copyTo_101_93 X 0 0 (f_Mod_copyTo_101_93 h) (0, [some (zr (some (101, 375))), some (zr (some (93, 367))), none], [], h) (fun x => .inr ((fun a => (.inl none, a) : zH → zF) x)) := by
  unfold f_Mod_copyTo_101_93
  refine zG_run t_Mod [(.iconst 0, 0, 0), (.istore_n 2, 0, 0)] (2, [some (zr (some (101, 375))), some (zr (some (93, 367))), some (zi 0)], [], h) (by decide +kernel) rfl ?_
  refine zG_forget (L' := [some (zr (some (101, 375))), some (zr (some (93, 367))), some (zi 0)]) (And.intro rfl (And.intro rfl (And.intro rfl trivial))) ?_
  refine zG_bind (fun y : zH => (20, [none, none, none], [], y)) (zG_iter (fun s : Int32 × zH => (2, [some (zr (some (101, 375))), some (zr (some (93, 367))), some (zi s.1)], [], s.2)) fun s => k_Mod_copyTo_101_93_b2 hl) (fun y6 => ?_)
  exact zG_ret (r := none) rfl (zrd_v rfl (by decide +kernel))
theorem c_Mod_copyTo_101_93 {l : Launch} {X : zX} (hl : l.stackTraces = false) {h : zH} {x : zH} (hx : f_Mod_copyTo_101_93 h = some x) : zCt l (true, 2) 2 m_Mod_copyTo_101_93 X 0 0 [zr (some (101, 375)), zr (some (93, 367))] h ((fun a => (.inl none, a) : zH → zF) x) :=
  zG_ct (R := fun a => (.inl none, a)) (x := x) ok_Mod_copyTo_101_93 hl (Nat.le_of_ble_eq_true rfl) hx (k_Mod_copyTo_101_93 hl)
def m_Mod_copyTo_102_94 : zM := (({ cls := "ScanPackerModel", name := "copyTo", desc := "([I[I)V" } : Jvm.MethodName), prog_13_method_80_code, 3, (Option.none : Option Jvm.ClassFile.FieldType), [], 1)
theorem ok_Mod_copyTo_102_94 : zMok m_Mod_copyTo_102_94 := ⟨by decide +kernel, zW_of 2054 (by decide +kernel) (by decide +kernel), zW_of 134 (by decide +kernel) (by decide +kernel), by decide, by decide +kernel, by decide +kernel⟩
set_option maxRecDepth 20000 in
theorem k_Mod_copyTo_102_94_b2 {l : Launch} {X : zX} (hl : l.stackTraces = false) {h : zH} {v2 : Int32} : zGl l m_Mod_copyTo_102_94 X 0 0 (f_Mod_copyTo_102_94_b2 h v2) (2, [some (zr (some (102, 376))), some (zr (some (94, 368))), some (zi v2)], [], h) (Sum.elim (fun s : Int32 × zH => .inl (2, [some (zr (some (102, 376))), some (zr (some (94, 368))), some (zi s.1)], [], s.2)) (fun y : zH => .inl (20, [none, none, none], [], y))) := by
  unfold f_Mod_copyTo_102_94_b2
  refine zG_run t_Mod [(.iload_n 2, 0, 0), (.aload_n 0, 0, 0)] (4, [some (zr (some (102, 376))), some (zr (some (94, 368))), some (zi v2)], [zr (some (102, 376)), zi v2], h) (by decide +kernel) rfl ?_
  refine zG_alen (v := 10) rfl (by decide +kernel) rfl ?_
  refine zG_icmp (op := .ge) (off := 15) (tgt := 20) (by decide +kernel) rfl Iff.rfl (fun c4 => ?_) (fun c4 => ?_)
  · exact zG_end (L' := [none, none, none]) rfl (trivial)
  · refine zG_run t_Mod [(.aload_n 0, 0, 0), (.iload_n 2, 0, 0), (.aload_n 1, 0, 0), (.iload_n 2, 0, 0)] (12, [some (zr (some (102, 376))), some (zr (some (94, 368))), some (zi v2)], [zi v2, zr (some (94, 368)), zi v2, zr (some (102, 376))], h) (by decide +kernel) rfl ?_
    refine zG_ald (v := zi (h.1 368 v2.toNatClampNeg)) (n := 10) rfl (by decide +kernel) rfl rfl fun hb1 => ?_
    refine zG_guard fun hb3 => ?_
    refine zG_bind (fun y => (14, [some (zr (some (102, 376))), some (zr (some (94, 368))), some (zi v2)], [], y)) (zG_astc (h' := zsI h 376 v2.toNatClampNeg (h.1 368 v2.toNatClampNeg)) rfl (by decide +kernel) hb3 rfl (zG_end (L' := [some (zr (some (102, 376))), some (zr (some (94, 368))), some (zi v2)]) rfl (And.intro rfl (And.intro rfl (And.intro rfl trivial))))) fun h2 => ?_
    refine zG_run t_Mod [(.iinc 2 1, 0, 0), (.goto (-15), 0, 0)] (2, [some (zr (some (102, 376))), some (zr (some (94, 368))), some (zi (v2 + 1))], [], h2) (by decide +kernel) rfl ?_
    exact zG_end (L' := [some (zr (some (102, 376))), some (zr (some (94, 368))), some (zi (v2 + 1))]) rfl (And.intro rfl (And.intro rfl (And.intro rfl trivial)))
set_option maxRecDepth 20000 in
theorem k_Mod_copyTo_102_94 {l : Launch} {X : zX} (hl : l.stackTraces = false) {h : zH} : zGl l m_Mod_copyTo_102_94 X 0 0 (f_Mod_copyTo_102_94 h) (0, [some (zr (some (102, 376))), some (zr (some (94, 368))), none], [], h) (fun x => .inr ((fun a => (.inl none, a) : zH → zF) x)) := by
  unfold f_Mod_copyTo_102_94
  refine zG_run t_Mod [(.iconst 0, 0, 0), (.istore_n 2, 0, 0)] (2, [some (zr (some (102, 376))), some (zr (some (94, 368))), some (zi 0)], [], h) (by decide +kernel) rfl ?_
  refine zG_forget (L' := [some (zr (some (102, 376))), some (zr (some (94, 368))), some (zi 0)]) (And.intro rfl (And.intro rfl (And.intro rfl trivial))) ?_
  refine zG_bind (fun y : zH => (20, [none, none, none], [], y)) (zG_iter (fun s : Int32 × zH => (2, [some (zr (some (102, 376))), some (zr (some (94, 368))), some (zi s.1)], [], s.2)) fun s => k_Mod_copyTo_102_94_b2 hl) (fun y6 => ?_)
  exact zG_ret (r := none) rfl (zrd_v rfl (by decide +kernel))
theorem c_Mod_copyTo_102_94 {l : Launch} {X : zX} (hl : l.stackTraces = false) {h : zH} {x : zH} (hx : f_Mod_copyTo_102_94 h = some x) : zCt l (true, 2) 2 m_Mod_copyTo_102_94 X 0 0 [zr (some (102, 376)), zr (some (94, 368))] h ((fun a => (.inl none, a) : zH → zF) x) :=
  zG_ct (R := fun a => (.inl none, a)) (x := x) ok_Mod_copyTo_102_94 hl (Nat.le_of_ble_eq_true rfl) hx (k_Mod_copyTo_102_94 hl)
def m_Mod_copyTo_103_95 : zM := (({ cls := "ScanPackerModel", name := "copyTo", desc := "([I[I)V" } : Jvm.MethodName), prog_13_method_80_code, 3, (Option.none : Option Jvm.ClassFile.FieldType), [], 1)
theorem ok_Mod_copyTo_103_95 : zMok m_Mod_copyTo_103_95 := ⟨by decide +kernel, zW_of 2054 (by decide +kernel) (by decide +kernel), zW_of 134 (by decide +kernel) (by decide +kernel), by decide, by decide +kernel, by decide +kernel⟩
set_option maxRecDepth 20000 in
theorem k_Mod_copyTo_103_95_b2 {l : Launch} {X : zX} (hl : l.stackTraces = false) {h : zH} {v2 : Int32} : zGl l m_Mod_copyTo_103_95 X 0 0 (f_Mod_copyTo_103_95_b2 h v2) (2, [some (zr (some (103, 377))), some (zr (some (95, 369))), some (zi v2)], [], h) (Sum.elim (fun s : Int32 × zH => .inl (2, [some (zr (some (103, 377))), some (zr (some (95, 369))), some (zi s.1)], [], s.2)) (fun y : zH => .inl (20, [none, none, none], [], y))) := by
  unfold f_Mod_copyTo_103_95_b2
  refine zG_run t_Mod [(.iload_n 2, 0, 0), (.aload_n 0, 0, 0)] (4, [some (zr (some (103, 377))), some (zr (some (95, 369))), some (zi v2)], [zr (some (103, 377)), zi v2], h) (by decide +kernel) rfl ?_
  refine zG_alen (v := 10) rfl (by decide +kernel) rfl ?_
  refine zG_icmp (op := .ge) (off := 15) (tgt := 20) (by decide +kernel) rfl Iff.rfl (fun c4 => ?_) (fun c4 => ?_)
  · exact zG_end (L' := [none, none, none]) rfl (trivial)
  · refine zG_run t_Mod [(.aload_n 0, 0, 0), (.iload_n 2, 0, 0), (.aload_n 1, 0, 0), (.iload_n 2, 0, 0)] (12, [some (zr (some (103, 377))), some (zr (some (95, 369))), some (zi v2)], [zi v2, zr (some (95, 369)), zi v2, zr (some (103, 377))], h) (by decide +kernel) rfl ?_
    refine zG_ald (v := zi (h.1 369 v2.toNatClampNeg)) (n := 10) rfl (by decide +kernel) rfl rfl fun hb1 => ?_
    refine zG_guard fun hb3 => ?_
    refine zG_bind (fun y => (14, [some (zr (some (103, 377))), some (zr (some (95, 369))), some (zi v2)], [], y)) (zG_astc (h' := zsI h 377 v2.toNatClampNeg (h.1 369 v2.toNatClampNeg)) rfl (by decide +kernel) hb3 rfl (zG_end (L' := [some (zr (some (103, 377))), some (zr (some (95, 369))), some (zi v2)]) rfl (And.intro rfl (And.intro rfl (And.intro rfl trivial))))) fun h2 => ?_
    refine zG_run t_Mod [(.iinc 2 1, 0, 0), (.goto (-15), 0, 0)] (2, [some (zr (some (103, 377))), some (zr (some (95, 369))), some (zi (v2 + 1))], [], h2) (by decide +kernel) rfl ?_
    exact zG_end (L' := [some (zr (some (103, 377))), some (zr (some (95, 369))), some (zi (v2 + 1))]) rfl (And.intro rfl (And.intro rfl (And.intro rfl trivial)))
set_option maxRecDepth 20000 in
theorem k_Mod_copyTo_103_95 {l : Launch} {X : zX} (hl : l.stackTraces = false) {h : zH} : zGl l m_Mod_copyTo_103_95 X 0 0 (f_Mod_copyTo_103_95 h) (0, [some (zr (some (103, 377))), some (zr (some (95, 369))), none], [], h) (fun x => .inr ((fun a => (.inl none, a) : zH → zF) x)) := by
  unfold f_Mod_copyTo_103_95
  refine zG_run t_Mod [(.iconst 0, 0, 0), (.istore_n 2, 0, 0)] (2, [some (zr (some (103, 377))), some (zr (some (95, 369))), some (zi 0)], [], h) (by decide +kernel) rfl ?_
  refine zG_forget (L' := [some (zr (some (103, 377))), some (zr (some (95, 369))), some (zi 0)]) (And.intro rfl (And.intro rfl (And.intro rfl trivial))) ?_
  refine zG_bind (fun y : zH => (20, [none, none, none], [], y)) (zG_iter (fun s : Int32 × zH => (2, [some (zr (some (103, 377))), some (zr (some (95, 369))), some (zi s.1)], [], s.2)) fun s => k_Mod_copyTo_103_95_b2 hl) (fun y6 => ?_)
  exact zG_ret (r := none) rfl (zrd_v rfl (by decide +kernel))
theorem c_Mod_copyTo_103_95 {l : Launch} {X : zX} (hl : l.stackTraces = false) {h : zH} {x : zH} (hx : f_Mod_copyTo_103_95 h = some x) : zCt l (true, 2) 2 m_Mod_copyTo_103_95 X 0 0 [zr (some (103, 377)), zr (some (95, 369))] h ((fun a => (.inl none, a) : zH → zF) x) :=
  zG_ct (R := fun a => (.inl none, a)) (x := x) ok_Mod_copyTo_103_95 hl (Nat.le_of_ble_eq_true rfl) hx (k_Mod_copyTo_103_95 hl)
def m_Mod_copyTo_104_96 : zM := (({ cls := "ScanPackerModel", name := "copyTo", desc := "([I[I)V" } : Jvm.MethodName), prog_13_method_80_code, 3, (Option.none : Option Jvm.ClassFile.FieldType), [], 1)
theorem ok_Mod_copyTo_104_96 : zMok m_Mod_copyTo_104_96 := ⟨by decide +kernel, zW_of 2054 (by decide +kernel) (by decide +kernel), zW_of 134 (by decide +kernel) (by decide +kernel), by decide, by decide +kernel, by decide +kernel⟩
set_option maxRecDepth 20000 in
theorem k_Mod_copyTo_104_96_b2 {l : Launch} {X : zX} (hl : l.stackTraces = false) {h : zH} {v2 : Int32} : zGl l m_Mod_copyTo_104_96 X 0 0 (f_Mod_copyTo_104_96_b2 h v2) (2, [some (zr (some (104, 378))), some (zr (some (96, 370))), some (zi v2)], [], h) (Sum.elim (fun s : Int32 × zH => .inl (2, [some (zr (some (104, 378))), some (zr (some (96, 370))), some (zi s.1)], [], s.2)) (fun y : zH => .inl (20, [none, none, none], [], y))) := by
  unfold f_Mod_copyTo_104_96_b2
  refine zG_run t_Mod [(.iload_n 2, 0, 0), (.aload_n 0, 0, 0)] (4, [some (zr (some (104, 378))), some (zr (some (96, 370))), some (zi v2)], [zr (some (104, 378)), zi v2], h) (by decide +kernel) rfl ?_
  refine zG_alen (v := 10) rfl (by decide +kernel) rfl ?_
  refine zG_icmp (op := .ge) (off := 15) (tgt := 20) (by decide +kernel) rfl Iff.rfl (fun c4 => ?_) (fun c4 => ?_)
  · exact zG_end (L' := [none, none, none]) rfl (trivial)
  · refine zG_run t_Mod [(.aload_n 0, 0, 0), (.iload_n 2, 0, 0), (.aload_n 1, 0, 0), (.iload_n 2, 0, 0)] (12, [some (zr (some (104, 378))), some (zr (some (96, 370))), some (zi v2)], [zi v2, zr (some (96, 370)), zi v2, zr (some (104, 378))], h) (by decide +kernel) rfl ?_
    refine zG_ald (v := zi (h.1 370 v2.toNatClampNeg)) (n := 10) rfl (by decide +kernel) rfl rfl fun hb1 => ?_
    refine zG_guard fun hb3 => ?_
    refine zG_bind (fun y => (14, [some (zr (some (104, 378))), some (zr (some (96, 370))), some (zi v2)], [], y)) (zG_astc (h' := zsI h 378 v2.toNatClampNeg (h.1 370 v2.toNatClampNeg)) rfl (by decide +kernel) hb3 rfl (zG_end (L' := [some (zr (some (104, 378))), some (zr (some (96, 370))), some (zi v2)]) rfl (And.intro rfl (And.intro rfl (And.intro rfl trivial))))) fun h2 => ?_
    refine zG_run t_Mod [(.iinc 2 1, 0, 0), (.goto (-15), 0, 0)] (2, [some (zr (some (104, 378))), some (zr (some (96, 370))), some (zi (v2 + 1))], [], h2) (by decide +kernel) rfl ?_
    exact zG_end (L' := [some (zr (some (104, 378))), some (zr (some (96, 370))), some (zi (v2 + 1))]) rfl (And.intro rfl (And.intro rfl (And.intro rfl trivial)))
set_option maxRecDepth 20000 in
theorem k_Mod_copyTo_104_96 {l : Launch} {X : zX} (hl : l.stackTraces = false) {h : zH} : zGl l m_Mod_copyTo_104_96 X 0 0 (f_Mod_copyTo_104_96 h) (0, [some (zr (some (104, 378))), some (zr (some (96, 370))), none], [], h) (fun x => .inr ((fun a => (.inl none, a) : zH → zF) x)) := by
  unfold f_Mod_copyTo_104_96
  refine zG_run t_Mod [(.iconst 0, 0, 0), (.istore_n 2, 0, 0)] (2, [some (zr (some (104, 378))), some (zr (some (96, 370))), some (zi 0)], [], h) (by decide +kernel) rfl ?_
  refine zG_forget (L' := [some (zr (some (104, 378))), some (zr (some (96, 370))), some (zi 0)]) (And.intro rfl (And.intro rfl (And.intro rfl trivial))) ?_
  refine zG_bind (fun y : zH => (20, [none, none, none], [], y)) (zG_iter (fun s : Int32 × zH => (2, [some (zr (some (104, 378))), some (zr (some (96, 370))), some (zi s.1)], [], s.2)) fun s => k_Mod_copyTo_104_96_b2 hl) (fun y6 => ?_)
  exact zG_ret (r := none) rfl (zrd_v rfl (by decide +kernel))
theorem c_Mod_copyTo_104_96 {l : Launch} {X : zX} (hl : l.stackTraces = false) {h : zH} {x : zH} (hx : f_Mod_copyTo_104_96 h = some x) : zCt l (true, 2) 2 m_Mod_copyTo_104_96 X 0 0 [zr (some (104, 378)), zr (some (96, 370))] h ((fun a => (.inl none, a) : zH → zF) x) :=
  zG_ct (R := fun a => (.inl none, a)) (x := x) ok_Mod_copyTo_104_96 hl (Nat.le_of_ble_eq_true rfl) hx (k_Mod_copyTo_104_96 hl)
def m_Mod_copyTo_105_74 : zM := (({ cls := "ScanPackerModel", name := "copyTo", desc := "([I[I)V" } : Jvm.MethodName), prog_13_method_80_code, 3, (Option.none : Option Jvm.ClassFile.FieldType), [], 1)
theorem ok_Mod_copyTo_105_74 : zMok m_Mod_copyTo_105_74 := ⟨by decide +kernel, zW_of 2054 (by decide +kernel) (by decide +kernel), zW_of 134 (by decide +kernel) (by decide +kernel), by decide, by decide +kernel, by decide +kernel⟩
set_option maxRecDepth 20000 in
theorem k_Mod_copyTo_105_74_b2 {l : Launch} {X : zX} (hl : l.stackTraces = false) {h : zH} {v2 : Int32} : zGl l m_Mod_copyTo_105_74 X 0 0 (f_Mod_copyTo_105_74_b2 h v2) (2, [some (zr (some (105, 379))), some (zr (some (74, 348))), some (zi v2)], [], h) (Sum.elim (fun s : Int32 × zH => .inl (2, [some (zr (some (105, 379))), some (zr (some (74, 348))), some (zi s.1)], [], s.2)) (fun y : zH => .inl (20, [none, none, none], [], y))) := by
  unfold f_Mod_copyTo_105_74_b2
  refine zG_run t_Mod [(.iload_n 2, 0, 0), (.aload_n 0, 0, 0)] (4, [some (zr (some (105, 379))), some (zr (some (74, 348))), some (zi v2)], [zr (some (105, 379)), zi v2], h) (by decide +kernel) rfl ?_
  refine zG_alen (v := 3) rfl (by decide +kernel) rfl ?_
  refine zG_icmp (op := .ge) (off := 15) (tgt := 20) (by decide +kernel) rfl Iff.rfl (fun c4 => ?_) (fun c4 => ?_)
  · exact zG_end (L' := [none, none, none]) rfl (trivial)
  · refine zG_run t_Mod [(.aload_n 0, 0, 0), (.iload_n 2, 0, 0), (.aload_n 1, 0, 0), (.iload_n 2, 0, 0)] (12, [some (zr (some (105, 379))), some (zr (some (74, 348))), some (zi v2)], [zi v2, zr (some (74, 348)), zi v2, zr (some (105, 379))], h) (by decide +kernel) rfl ?_
    refine zG_ald (v := zi (h.1 348 v2.toNatClampNeg)) (n := 3) rfl (by decide +kernel) rfl rfl fun hb1 => ?_
    refine zG_guard fun hb3 => ?_
    refine zG_bind (fun y => (14, [some (zr (some (105, 379))), some (zr (some (74, 348))), some (zi v2)], [], y)) (zG_astc (h' := zsI h 379 v2.toNatClampNeg (h.1 348 v2.toNatClampNeg)) rfl (by decide +kernel) hb3 rfl (zG_end (L' := [some (zr (some (105, 379))), some (zr (some (74, 348))), some (zi v2)]) rfl (And.intro rfl (And.intro rfl (And.intro rfl trivial))))) fun h2 => ?_
    refine zG_run t_Mod [(.iinc 2 1, 0, 0), (.goto (-15), 0, 0)] (2, [some (zr (some (105, 379))), some (zr (some (74, 348))), some (zi (v2 + 1))], [], h2) (by decide +kernel) rfl ?_
    exact zG_end (L' := [some (zr (some (105, 379))), some (zr (some (74, 348))), some (zi (v2 + 1))]) rfl (And.intro rfl (And.intro rfl (And.intro rfl trivial)))
set_option maxRecDepth 20000 in
theorem k_Mod_copyTo_105_74 {l : Launch} {X : zX} (hl : l.stackTraces = false) {h : zH} : zGl l m_Mod_copyTo_105_74 X 0 0 (f_Mod_copyTo_105_74 h) (0, [some (zr (some (105, 379))), some (zr (some (74, 348))), none], [], h) (fun x => .inr ((fun a => (.inl none, a) : zH → zF) x)) := by
  unfold f_Mod_copyTo_105_74
  refine zG_run t_Mod [(.iconst 0, 0, 0), (.istore_n 2, 0, 0)] (2, [some (zr (some (105, 379))), some (zr (some (74, 348))), some (zi 0)], [], h) (by decide +kernel) rfl ?_
  refine zG_forget (L' := [some (zr (some (105, 379))), some (zr (some (74, 348))), some (zi 0)]) (And.intro rfl (And.intro rfl (And.intro rfl trivial))) ?_
  refine zG_bind (fun y : zH => (20, [none, none, none], [], y)) (zG_iter (fun s : Int32 × zH => (2, [some (zr (some (105, 379))), some (zr (some (74, 348))), some (zi s.1)], [], s.2)) fun s => k_Mod_copyTo_105_74_b2 hl) (fun y6 => ?_)
  exact zG_ret (r := none) rfl (zrd_v rfl (by decide +kernel))
theorem c_Mod_copyTo_105_74 {l : Launch} {X : zX} (hl : l.stackTraces = false) {h : zH} {x : zH} (hx : f_Mod_copyTo_105_74 h = some x) : zCt l (true, 2) 2 m_Mod_copyTo_105_74 X 0 0 [zr (some (105, 379)), zr (some (74, 348))] h ((fun a => (.inl none, a) : zH → zF) x) :=
  zG_ct (R := fun a => (.inl none, a)) (x := x) ok_Mod_copyTo_105_74 hl (Nat.le_of_ble_eq_true rfl) hx (k_Mod_copyTo_105_74 hl)
def m_Mod_image : zM := (({ cls := "ScanPackerModel", name := "image", desc := "()V" } : Jvm.MethodName), prog_13_method_112_code, 1, (Option.none : Option Jvm.ClassFile.FieldType), [], 2)
theorem ok_Mod_image : zMok m_Mod_image := ⟨by decide +kernel, zW_of 2067 (by decide +kernel) (by decide +kernel), zW_of 134 (by decide +kernel) (by decide +kernel), by decide, by decide +kernel, by decide +kernel⟩
set_option maxRecDepth 20000 in
theorem k_Mod_image {l : Launch} {X : zX} (hl : l.stackTraces = false) {h : zH} : zGl l m_Mod_image X 0 0 (f_Mod_image h) (0, [some (zr (some (11, 333)))], [], h) (fun x => .inr ((fun a => (.inl none, a) : zH → zF) x)) := by
  unfold f_Mod_image
  refine zG_bind (fun y => (5, [some (zr (some (11, 333)))], [], y)) (zG_run t_Mod [(.aload_n 0, 0, 0), (.iconst 0, 0, 0), (.putfield 181, 11, 2)] (5, [some (zr (some (11, 333)))], [], zsI h 333 2 0) (by decide +kernel) rfl (zG_end (L' := [some (zr (some (11, 333)))]) rfl (And.intro rfl trivial))) fun h1 => ?_
  refine zG_bind (fun y => (10, [some (zr (some (11, 333)))], [], y)) (zG_run t_Mod [(.aload_n 0, 0, 0), (.iconst 1, 0, 0), (.putfield 307, 11, 55)] (10, [some (zr (some (11, 333)))], [], zsI h1 333 55 1) (by decide +kernel) rfl (zG_end (L' := [some (zr (some (11, 333)))]) rfl (And.intro rfl trivial))) fun h2 => ?_
  refine zG_bind (fun y => (18, [some (zr (some (11, 333)))], [], y)) (zG_run t_Mod [(.aload_n 0, 0, 0), (.aload_n 0, 0, 0), (.getfield 301, 11, 45), (.putfield 484, 11, 56)] (18, [some (zr (some (11, 333)))], [], zsI h2 333 56 (h2.1 333 45)) (by decide +kernel) rfl (zG_end (L' := [some (zr (some (11, 333)))]) rfl (And.intro rfl trivial))) fun h3 => ?_
  refine zG_bind (fun y => (26, [some (zr (some (11, 333)))], [], y)) (zG_run t_Mod [(.aload_n 0, 0, 0), (.aload_n 0, 0, 0), (.getfield 304, 11, 47), (.putfield 487, 11, 57)] (26, [some (zr (some (11, 333)))], [], zsI h3 333 57 (h3.1 333 47)) (by decide +kernel) rfl (zG_end (L' := [some (zr (some (11, 333)))]) rfl (And.intro rfl trivial))) fun h4 => ?_
  refine zG_run t_Mod [(.aload_n 0, 0, 0), (.getfield 160, 11, 58), (.aload_n 0, 0, 0), (.getfield 74, 11, 14)] (34, [some (zr (some (11, 333)))], [zr (some (73, 347)), zr (some (100, 374))], h4) (by decide +kernel) rfl ?_
  refine zG_callS (idx := 477) (R := (fun a => (none, a))) (as := [zr (some (100, 374)), zr (some (73, 347))]) (rest := []) (n := 2) (fun a ha => c_Mod_copyTo_100_73 hl ha) (by decide +kernel) ⟨ok_Mod_copyTo_100_73, by decide, by decide +kernel⟩ rfl w_595 w_596 rfl rfl (Nat.le_of_ble_eq_true rfl) fun x5 => ?_
  refine zG_run t_Mod [(.aload_n 0, 0, 0), (.getfield 163, 11, 59), (.aload_n 0, 0, 0), (.getfield 139, 11, 46)] (45, [some (zr (some (11, 333)))], [zr (some (93, 367)), zr (some (101, 375))], x5) (by decide +kernel) rfl ?_
  refine zG_callS (idx := 477) (R := (fun a => (none, a))) (as := [zr (some (101, 375)), zr (some (93, 367))]) (rest := []) (n := 2) (fun a ha => c_Mod_copyTo_101_93 hl ha) (by decide +kernel) ⟨ok_Mod_copyTo_101_93, by decide, by decide +kernel⟩ rfl w_595 w_596 rfl rfl (Nat.le_of_ble_eq_true rfl) fun x6 => ?_
  refine zG_run t_Mod [(.aload_n 0, 0, 0), (.getfield 166, 11, 60), (.aload_n 0, 0, 0), (.getfield 142, 11, 48)] (56, [some (zr (some (11, 333)))], [zr (some (94, 368)), zr (some (102, 376))], x6) (by decide +kernel) rfl ?_
  refine zG_callS (idx := 477) (R := (fun a => (none, a))) (as := [zr (some (102, 376)), zr (some (94, 368))]) (rest := []) (n := 2) (fun a ha => c_Mod_copyTo_102_94 hl ha) (by decide +kernel) ⟨ok_Mod_copyTo_102_94, by decide, by decide +kernel⟩ rfl w_595 w_596 rfl rfl (Nat.le_of_ble_eq_true rfl) fun x7 => ?_
  refine zG_run t_Mod [(.aload_n 0, 0, 0), (.getfield 169, 11, 61), (.aload_n 0, 0, 0), (.getfield 145, 11, 49)] (67, [some (zr (some (11, 333)))], [zr (some (95, 369)), zr (some (103, 377))], x7) (by decide +kernel) rfl ?_
  refine zG_callS (idx := 477) (R := (fun a => (none, a))) (as := [zr (some (103, 377)), zr (some (95, 369))]) (rest := []) (n := 2) (fun a ha => c_Mod_copyTo_103_95 hl ha) (by decide +kernel) ⟨ok_Mod_copyTo_103_95, by decide, by decide +kernel⟩ rfl w_595 w_596 rfl rfl (Nat.le_of_ble_eq_true rfl) fun x8 => ?_
  refine zG_run t_Mod [(.aload_n 0, 0, 0), (.getfield 172, 11, 62), (.aload_n 0, 0, 0), (.getfield 148, 11, 50)] (78, [some (zr (some (11, 333)))], [zr (some (96, 370)), zr (some (104, 378))], x8) (by decide +kernel) rfl ?_
  refine zG_callS (idx := 477) (R := (fun a => (none, a))) (as := [zr (some (104, 378)), zr (some (96, 370))]) (rest := []) (n := 2) (fun a ha => c_Mod_copyTo_104_96 hl ha) (by decide +kernel) ⟨ok_Mod_copyTo_104_96, by decide, by decide +kernel⟩ rfl w_595 w_596 rfl rfl (Nat.le_of_ble_eq_true rfl) fun x9 => ?_
  refine zG_run t_Mod [(.aload_n 0, 0, 0), (.getfield 175, 11, 63), (.aload_n 0, 0, 0), (.getfield 77, 11, 15)] (89, [some (zr (some (11, 333)))], [zr (some (74, 348)), zr (some (105, 379))], x9) (by decide +kernel) rfl ?_
  refine zG_callS (idx := 477) (R := (fun a => (none, a))) (as := [zr (some (105, 379)), zr (some (74, 348))]) (rest := []) (n := 2) (fun a ha => c_Mod_copyTo_105_74 hl ha) (by decide +kernel) ⟨ok_Mod_copyTo_105_74, by decide, by decide +kernel⟩ rfl w_595 w_596 rfl rfl (Nat.le_of_ble_eq_true rfl) fun x10 => ?_
  exact zG_ret (r := none) rfl (zrd_v rfl (by decide +kernel))
theorem c_Mod_image {l : Launch} {X : zX} (hl : l.stackTraces = false) {h : zH} {x : zH} (hx : f_Mod_image h = some x) : zCt l (true, 2) 2 m_Mod_image X 0 0 [zr (some (11, 333))] h ((fun a => (.inl none, a) : zH → zF) x) :=
  zG_ct (R := fun a => (.inl none, a)) (x := x) ok_Mod_image hl (Nat.le_of_ble_eq_true rfl) hx (k_Mod_image hl)
def m_Mod_copyTo_73_100 : zM := (({ cls := "ScanPackerModel", name := "copyTo", desc := "([I[I)V" } : Jvm.MethodName), prog_13_method_80_code, 3, (Option.none : Option Jvm.ClassFile.FieldType), [], 1)
theorem ok_Mod_copyTo_73_100 : zMok m_Mod_copyTo_73_100 := ⟨by decide +kernel, zW_of 2054 (by decide +kernel) (by decide +kernel), zW_of 134 (by decide +kernel) (by decide +kernel), by decide, by decide +kernel, by decide +kernel⟩
set_option maxRecDepth 20000 in
theorem k_Mod_copyTo_73_100_b2 {l : Launch} {X : zX} (hl : l.stackTraces = false) {h : zH} {v2 : Int32} : zGl l m_Mod_copyTo_73_100 X 0 0 (f_Mod_copyTo_73_100_b2 h v2) (2, [some (zr (some (73, 347))), some (zr (some (100, 374))), some (zi v2)], [], h) (Sum.elim (fun s : Int32 × zH => .inl (2, [some (zr (some (73, 347))), some (zr (some (100, 374))), some (zi s.1)], [], s.2)) (fun y : zH => .inl (20, [none, none, none], [], y))) := by
  unfold f_Mod_copyTo_73_100_b2
  refine zG_run t_Mod [(.iload_n 2, 0, 0), (.aload_n 0, 0, 0)] (4, [some (zr (some (73, 347))), some (zr (some (100, 374))), some (zi v2)], [zr (some (73, 347)), zi v2], h) (by decide +kernel) rfl ?_
  refine zG_alen (v := 57) rfl (by decide +kernel) rfl ?_
  refine zG_icmp (op := .ge) (off := 15) (tgt := 20) (by decide +kernel) rfl Iff.rfl (fun c4 => ?_) (fun c4 => ?_)
  · exact zG_end (L' := [none, none, none]) rfl (trivial)
  · refine zG_run t_Mod [(.aload_n 0, 0, 0), (.iload_n 2, 0, 0), (.aload_n 1, 0, 0), (.iload_n 2, 0, 0)] (12, [some (zr (some (73, 347))), some (zr (some (100, 374))), some (zi v2)], [zi v2, zr (some (100, 374)), zi v2, zr (some (73, 347))], h) (by decide +kernel) rfl ?_
    refine zG_ald (v := zi (h.1 374 v2.toNatClampNeg)) (n := 57) rfl (by decide +kernel) rfl rfl fun hb1 => ?_
    refine zG_guard fun hb3 => ?_
    refine zG_bind (fun y => (14, [some (zr (some (73, 347))), some (zr (some (100, 374))), some (zi v2)], [], y)) (zG_astc (h' := zsI h 347 v2.toNatClampNeg (h.1 374 v2.toNatClampNeg)) rfl (by decide +kernel) hb3 rfl (zG_end (L' := [some (zr (some (73, 347))), some (zr (some (100, 374))), some (zi v2)]) rfl (And.intro rfl (And.intro rfl (And.intro rfl trivial))))) fun h2 => ?_
    refine zG_run t_Mod [(.iinc 2 1, 0, 0), (.goto (-15), 0, 0)] (2, [some (zr (some (73, 347))), some (zr (some (100, 374))), some (zi (v2 + 1))], [], h2) (by decide +kernel) rfl ?_
    exact zG_end (L' := [some (zr (some (73, 347))), some (zr (some (100, 374))), some (zi (v2 + 1))]) rfl (And.intro rfl (And.intro rfl (And.intro rfl trivial)))
set_option maxRecDepth 20000 in
theorem k_Mod_copyTo_73_100 {l : Launch} {X : zX} (hl : l.stackTraces = false) {h : zH} : zGl l m_Mod_copyTo_73_100 X 0 0 (f_Mod_copyTo_73_100 h) (0, [some (zr (some (73, 347))), some (zr (some (100, 374))), none], [], h) (fun x => .inr ((fun a => (.inl none, a) : zH → zF) x)) := by
  unfold f_Mod_copyTo_73_100
  refine zG_run t_Mod [(.iconst 0, 0, 0), (.istore_n 2, 0, 0)] (2, [some (zr (some (73, 347))), some (zr (some (100, 374))), some (zi 0)], [], h) (by decide +kernel) rfl ?_
  refine zG_forget (L' := [some (zr (some (73, 347))), some (zr (some (100, 374))), some (zi 0)]) (And.intro rfl (And.intro rfl (And.intro rfl trivial))) ?_
  refine zG_bind (fun y : zH => (20, [none, none, none], [], y)) (zG_iter (fun s : Int32 × zH => (2, [some (zr (some (73, 347))), some (zr (some (100, 374))), some (zi s.1)], [], s.2)) fun s => k_Mod_copyTo_73_100_b2 hl) (fun y6 => ?_)
  exact zG_ret (r := none) rfl (zrd_v rfl (by decide +kernel))
theorem c_Mod_copyTo_73_100 {l : Launch} {X : zX} (hl : l.stackTraces = false) {h : zH} {x : zH} (hx : f_Mod_copyTo_73_100 h = some x) : zCt l (true, 2) 2 m_Mod_copyTo_73_100 X 0 0 [zr (some (73, 347)), zr (some (100, 374))] h ((fun a => (.inl none, a) : zH → zF) x) :=
  zG_ct (R := fun a => (.inl none, a)) (x := x) ok_Mod_copyTo_73_100 hl (Nat.le_of_ble_eq_true rfl) hx (k_Mod_copyTo_73_100 hl)
def m_Mod_copyTo_93_101 : zM := (({ cls := "ScanPackerModel", name := "copyTo", desc := "([I[I)V" } : Jvm.MethodName), prog_13_method_80_code, 3, (Option.none : Option Jvm.ClassFile.FieldType), [], 1)
theorem ok_Mod_copyTo_93_101 : zMok m_Mod_copyTo_93_101 := ⟨by decide +kernel, zW_of 2054 (by decide +kernel) (by decide +kernel), zW_of 134 (by decide +kernel) (by decide +kernel), by decide, by decide +kernel, by decide +kernel⟩
set_option maxRecDepth 20000 in
theorem k_Mod_copyTo_93_101_b2 {l : Launch} {X : zX} (hl : l.stackTraces = false) {h : zH} {v2 : Int32} : zGl l m_Mod_copyTo_93_101 X 0 0 (f_Mod_copyTo_93_101_b2 h v2) (2, [some (zr (some (93, 367))), some (zr (some (101, 375))), some (zi v2)], [], h) (Sum.elim (fun s : Int32 × zH => .inl (2, [some (zr (some (93, 367))), some (zr (some (101, 375))), some (zi s.1)], [], s.2)) (fun y : zH => .inl (20, [none, none, none], [], y))) := by
  unfold f_Mod_copyTo_93_101_b2
  refine zG_run t_Mod [(.iload_n 2, 0, 0), (.aload_n 0, 0, 0)] (4, [some (zr (some (93, 367))), some (zr (some (101, 375))), some (zi v2)], [zr (some (93, 367)), zi v2], h) (by decide +kernel) rfl ?_
  refine zG_alen (v := 2280) rfl (by decide +kernel) rfl ?_
  refine zG_icmp (op := .ge) (off := 15) (tgt := 20) (by decide +kernel) rfl Iff.rfl (fun c4 => ?_) (fun c4 => ?_)
  · exact zG_end (L' := [none, none, none]) rfl (trivial)
  · refine zG_run t_Mod [(.aload_n 0, 0, 0), (.iload_n 2, 0, 0), (.aload_n 1, 0, 0), (.iload_n 2, 0, 0)] (12, [some (zr (some (93, 367))), some (zr (some (101, 375))), some (zi v2)], [zi v2, zr (some (101, 375)), zi v2, zr (some (93, 367))], h) (by decide +kernel) rfl ?_
    refine zG_ald (v := zi (h.1 375 v2.toNatClampNeg)) (n := 2280) rfl (by decide +kernel) rfl rfl fun hb1 => ?_
    refine zG_guard fun hb3 => ?_
    refine zG_bind (fun y => (14, [some (zr (some (93, 367))), some (zr (some (101, 375))), some (zi v2)], [], y)) (zG_astc (h' := zsI h 367 v2.toNatClampNeg (h.1 375 v2.toNatClampNeg)) rfl (by decide +kernel) hb3 rfl (zG_end (L' := [some (zr (some (93, 367))), some (zr (some (101, 375))), some (zi v2)]) rfl (And.intro rfl (And.intro rfl (And.intro rfl trivial))))) fun h2 => ?_
    refine zG_run t_Mod [(.iinc 2 1, 0, 0), (.goto (-15), 0, 0)] (2, [some (zr (some (93, 367))), some (zr (some (101, 375))), some (zi (v2 + 1))], [], h2) (by decide +kernel) rfl ?_
    exact zG_end (L' := [some (zr (some (93, 367))), some (zr (some (101, 375))), some (zi (v2 + 1))]) rfl (And.intro rfl (And.intro rfl (And.intro rfl trivial)))
set_option maxRecDepth 20000 in
theorem k_Mod_copyTo_93_101 {l : Launch} {X : zX} (hl : l.stackTraces = false) {h : zH} : zGl l m_Mod_copyTo_93_101 X 0 0 (f_Mod_copyTo_93_101 h) (0, [some (zr (some (93, 367))), some (zr (some (101, 375))), none], [], h) (fun x => .inr ((fun a => (.inl none, a) : zH → zF) x)) := by
  unfold f_Mod_copyTo_93_101
  refine zG_run t_Mod [(.iconst 0, 0, 0), (.istore_n 2, 0, 0)] (2, [some (zr (some (93, 367))), some (zr (some (101, 375))), some (zi 0)], [], h) (by decide +kernel) rfl ?_
  refine zG_forget (L' := [some (zr (some (93, 367))), some (zr (some (101, 375))), some (zi 0)]) (And.intro rfl (And.intro rfl (And.intro rfl trivial))) ?_
  refine zG_bind (fun y : zH => (20, [none, none, none], [], y)) (zG_iter (fun s : Int32 × zH => (2, [some (zr (some (93, 367))), some (zr (some (101, 375))), some (zi s.1)], [], s.2)) fun s => k_Mod_copyTo_93_101_b2 hl) (fun y6 => ?_)
  exact zG_ret (r := none) rfl (zrd_v rfl (by decide +kernel))
theorem c_Mod_copyTo_93_101 {l : Launch} {X : zX} (hl : l.stackTraces = false) {h : zH} {x : zH} (hx : f_Mod_copyTo_93_101 h = some x) : zCt l (true, 2) 2 m_Mod_copyTo_93_101 X 0 0 [zr (some (93, 367)), zr (some (101, 375))] h ((fun a => (.inl none, a) : zH → zF) x) :=
  zG_ct (R := fun a => (.inl none, a)) (x := x) ok_Mod_copyTo_93_101 hl (Nat.le_of_ble_eq_true rfl) hx (k_Mod_copyTo_93_101 hl)
