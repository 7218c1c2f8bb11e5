/-! methods, by wip/whole/gen.py -/
def m_Mod_chain : zM := (({ cls := "ScanPackerModel", name := "chain", desc := "(II)I" } : Jvm.MethodName), prog_13_method_66_code, 3, (Option.some Jvm.ClassFile.FieldType.int), [], 2)
theorem ok_Mod_chain : zMok m_Mod_chain := ⟨by decide +kernel, zW_of 1866 (by decide +kernel) (by decide +kernel), zW_of 134 (by decide +kernel) (by decide +kernel), by decide, by decide +kernel, by decide +kernel⟩
set_option maxRecDepth 20000 in
theorem k_Mod_chain_j37 {l : Launch} {X : zX} (hl : l.stackTraces = false) {h : zH} : zGl l m_Mod_chain X 0 0 (f_Mod_chain_j37 h) (37, [some (zr (some (11, 333))), none, none], [], h) (fun x => .inr ((fun a => (.inl (some (zi a.1)), a.2) : Int32 × zH → zF) x)) := by
  unfold f_Mod_chain_j37
  refine zG_run t_Mod [(.aload_n 0, 0, 0), (.iconst 1, 0, 0)] (39, [some (zr (some (11, 333))), none, none], [zi 1, zr (some (11, 333))], h) (by decide +kernel) rfl ?_
  refine zG_callV (idx := 288) (R := (fun a => (some (zi a.1), a.2))) (as := [zi 1]) (rest := []) (n := 1) (fun a ha => c_Mod_fail hl ha) (by decide +kernel) ⟨ok_Mod_fail, by decide, by decide +kernel⟩ rfl w_378 w_379 w_380 (by decide) rfl rfl rfl (Nat.le_of_ble_eq_true rfl) fun x3 => ?_
  exact zG_ret (r := some (zi x3.1)) rfl (zrd_i rfl (by decide +kernel))
set_option maxRecDepth 20000 in
theorem k_Mod_chain {l : Launch} {X : zX} (hl : l.stackTraces = false) {h : zH} {v1 : Int32} {v2 : Int32} : zGl l m_Mod_chain X 0 0 (f_Mod_chain h v1 v2) (0, [some (zr (some (11, 333))), some (zi v1), some (zi v2)], [], h) (fun x => .inr ((fun a => (.inl (some (zi a.1)), a.2) : Int32 × zH → zF) x)) := by
  unfold f_Mod_chain
  refine zG_bind (fun y => (5, [some (zr (some (11, 333))), some (zi v1), some (zi v2)], [], y)) (zG_run t_Mod [(.aload_n 0, 0, 0), (.iconst 0, 0, 0), (.putfield 181, 11, 2)] (5, [some (zr (some (11, 333))), some (zi v1), some (zi v2)], [], zsI h 333 2 0) (by decide +kernel) rfl (zG_end (L' := [some (zr (some (11, 333))), some (zi v1), some (zi v2)]) rfl (And.intro rfl (And.intro rfl (And.intro rfl trivial))))) fun h1 => ?_
  refine zG_run t_Mod [(.iload_n 1, 0, 0), (.iconst 0, 0, 0), (.aload_n 0, 0, 0), (.getfield 40, 11, 3), (.iconst 2, 0, 0)] (12, [some (zr (some (11, 333))), some (zi v1), some (zi v2)], [zi 2, zr (some (62, 336)), zi 0, zi v1], h1) (by decide +kernel) rfl ?_
  refine zG_aldc (v := zi (h1.1 336 2)) rfl (by decide +kernel) (by decide +kernel) rfl ?_
  refine zG_run t_Mod [(.iconst 1, 0, 0), (.isub, 0, 0)] (15, [some (zr (some (11, 333))), some (zi v1), some (zi v2)], [zi ((h1.1 336 2) - 1), zi 0, zi v1], h1) (by decide +kernel) rfl ?_
  refine zG_callS (idx := 391) (R := (fun a => (some (zi a), h1))) (as := [zi v1, zi 0, zi ((h1.1 336 2) - 1)]) (rest := []) (n := 3) (fun a ha => c_Mod_isIn hl ha) (by decide +kernel) ⟨ok_Mod_isIn, by decide, by decide +kernel⟩ rfl w_526 w_527 rfl rfl (Nat.le_of_ble_eq_true rfl) fun x2 => ?_
  refine zG_if (op := .eq) (off := 19) (tgt := 37) (by decide +kernel) rfl Iff.rfl (fun c10 => ?_) (fun c10 => ?_)
  · exact zG_forget (L' := [some (zr (some (11, 333))), none, none]) (And.intro rfl trivial) (k_Mod_chain_j37 hl)
  · refine zG_run t_Mod [(.iload_n 2, 0, 0), (.iconst (-1), 0, 0), (.aload_n 0, 0, 0), (.getfield 62, 11, 10), (.iload_n 1, 0, 0)] (28, [some (zr (some (11, 333))), some (zi v1), some (zi v2)], [zi v1, zr (some (69, 343)), zi (-1), zi v2], h1) (by decide +kernel) rfl ?_
    refine zG_ald (v := zi (h1.1 343 v1.toNatClampNeg)) (n := 6) rfl (by decide +kernel) rfl rfl fun hb4 => ?_
    refine zG_run t_Mod [(.iconst 1, 0, 0), (.isub, 0, 0)] (31, [some (zr (some (11, 333))), some (zi v1), some (zi v2)], [zi ((h1.1 343 v1.toNatClampNeg) - 1), zi (-1), zi v2], h1) (by decide +kernel) rfl ?_
    refine zG_callS (idx := 391) (R := (fun a => (some (zi a), h1))) (as := [zi v2, zi (-1), zi ((h1.1 343 v1.toNatClampNeg) - 1)]) (rest := []) (n := 3) (fun a ha => c_Mod_isIn hl ha) (by decide +kernel) ⟨ok_Mod_isIn, by decide, by decide +kernel⟩ rfl w_526 w_527 rfl rfl (Nat.le_of_ble_eq_true rfl) fun x5 => ?_
    refine zG_if (op := .ne) (off := 9) (tgt := 43) (by decide +kernel) rfl Iff.rfl (fun c9 => ?_) (fun c9 => ?_)
    · refine zG_run t_Mod [(.iload_n 2, 0, 0), (.iconst (-1), 0, 0)] (45, [some (zr (some (11, 333))), some (zi v1), some (zi v2)], [zi (-1), zi v2], h1) (by decide +kernel) rfl ?_
      refine zG_icmp (op := .ne) (off := 12) (tgt := 57) (by decide +kernel) rfl Iff.rfl (fun c8 => ?_) (fun c8 => ?_)
      · refine zG_run t_Mod [(.aload_n 0, 0, 0), (.iload_n 1, 0, 0), (.iload_n 2, 0, 0)] (60, [some (zr (some (11, 333))), some (zi v1), some (zi v2)], [zi v2, zi v1, zr (some (11, 333))], h1) (by decide +kernel) rfl ?_
        refine zG_callV (idx := 358) (R := (fun a => (some (zi a), h1))) (as := [zi v1, zi v2]) (rest := []) (n := 2) (fun a ha => c_Mod_cellAt hl ha) (by decide +kernel) ⟨ok_Mod_cellAt, by decide, by decide +kernel⟩ rfl w_517 w_518 w_519 (by decide) rfl rfl rfl (Nat.le_of_ble_eq_true rfl) fun x6 => ?_
        exact zG_ret (r := some (zi x6)) rfl (zrd_i rfl (by decide +kernel))
      · refine zG_run t_Mod [(.aload_n 0, 0, 0), (.getfield 62, 11, 10), (.iload_n 1, 0, 0)] (53, [some (zr (some (11, 333))), some (zi v1), some (zi v2)], [zi v1, zr (some (69, 343))], h1) (by decide +kernel) rfl ?_
        refine zG_ald (v := zi (h1.1 343 v1.toNatClampNeg)) (n := 6) rfl (by decide +kernel) rfl rfl fun hb7 => ?_
        refine zG_run t_Mod [(.goto 9, 0, 0)] (63, [some (zr (some (11, 333))), some (zi v1), some (zi v2)], [zi (h1.1 343 v1.toNatClampNeg)], h1) (by decide +kernel) rfl ?_
        exact zG_ret (r := some (zi (h1.1 343 v1.toNatClampNeg))) rfl (zrd_i rfl (by decide +kernel))
    · exact zG_forget (L' := [some (zr (some (11, 333))), none, none]) (And.intro rfl trivial) (k_Mod_chain_j37 hl)
theorem c_Mod_chain {l : Launch} {X : zX} (hl : l.stackTraces = false) {h : zH} {v1 : Int32} {v2 : Int32} {x : Int32 × zH} (hx : f_Mod_chain h v1 v2 = some x) : zCt l (true, 2) 2 m_Mod_chain X 0 0 [zr (some (11, 333)), zi v1, zi v2] h ((fun a => (.inl (some (zi a.1)), a.2) : Int32 × zH → zF) x) :=
  zG_ct (R := fun a => (.inl (some (zi a.1)), a.2)) (x := x) ok_Mod_chain hl (Nat.le_of_ble_eq_true rfl) hx (k_Mod_chain hl)
def m_Mod_isFault : zM := (({ cls := "ScanPackerModel", name := "isFault", desc := "(I)Z" } : Jvm.MethodName), prog_13_method_62_code, 2, (Option.some Jvm.ClassFile.FieldType.boolean), [], 3)
theorem ok_Mod_isFault : zMok m_Mod_isFault := ⟨by decide +kernel, zW_of 1874 (by decide +kernel) (by decide +kernel), zW_of 134 (by decide +kernel) (by decide +kernel), by decide, by decide +kernel, by decide +kernel⟩
set_option maxRecDepth 20000 in
theorem k_Mod_isFault {l : Launch} {X : zX} (hl : l.stackTraces = false) {h : zH} {v1 : Int32} : zGl l m_Mod_isFault X 0 0 (f_Mod_isFault h v1) (0, [some (zr (some (11, 333))), some (zi v1)], [], h) (fun x => .inr ((fun a => (.inl (some (zi a)), h) : Int32 → zF) x)) := by
  unfold f_Mod_isFault
  refine zG_run t_Mod [(.iload_n 1, 0, 0), (.iconst 0, 0, 0), (.aload_n 0, 0, 0)] (3, [some (zr (some (11, 333))), some (zi v1)], [zr (some (11, 333)), zi 0, zi v1], h) (by decide +kernel) rfl ?_
  refine zG_callV (idx := 332) (R := (fun a => (some (zi a), h))) (as := []) (rest := [zi 0, zi v1]) (n := 0) (fun a ha => c_Mod_faults hl ha) (by decide +kernel) ⟨ok_Mod_faults, by decide, by decide +kernel⟩ rfl w_467 w_468 w_469 (by decide) rfl rfl rfl (Nat.le_of_ble_eq_true rfl) fun x1 => ?_
  refine zG_run t_Mod [(.iconst 1, 0, 0), (.isub, 0, 0)] (8, [some (zr (some (11, 333))), some (zi v1)], [zi (x1 - 1), zi 0, zi v1], h) (by decide +kernel) rfl ?_
  refine zG_callS (idx := 391) (R := (fun a => (some (zi a), h))) (as := [zi v1, zi 0, zi (x1 - 1)]) (rest := []) (n := 3) (fun a ha => c_Mod_isIn hl ha) (by decide +kernel) ⟨ok_Mod_isIn, by decide, by decide +kernel⟩ rfl w_526 w_527 rfl rfl (Nat.le_of_ble_eq_true rfl) fun x2 => ?_
  refine zG_guard fun hb3 => ?_
  exact zG_ret (r := some (zi x2)) rfl (zrd_z rfl (by decide +kernel) hb3)
theorem c_Mod_isFault {l : Launch} {X : zX} (hl : l.stackTraces = false) {h : zH} {v1 : Int32} {x : Int32} (hx : f_Mod_isFault h v1 = some x) : zCt l (true, 2) 2 m_Mod_isFault X 0 0 [zr (some (11, 333)), zi v1] h ((fun a => (.inl (some (zi a)), h) : Int32 → zF) x) :=
  zG_ct (R := fun a => (.inl (some (zi a)), h)) (x := x) ok_Mod_isFault hl (Nat.le_of_ble_eq_true rfl) hx (k_Mod_isFault hl)
def m_Mod_isUnder : zM := (({ cls := "ScanPackerModel", name := "isUnder", desc := "(II)Z" } : Jvm.MethodName), prog_13_method_47_code, 5, (Option.some Jvm.ClassFile.FieldType.boolean), [], 2)
theorem ok_Mod_isUnder : zMok m_Mod_isUnder := ⟨by decide +kernel, zW_of 1882 (by decide +kernel) (by decide +kernel), zW_of 134 (by decide +kernel) (by decide +kernel), by decide, by decide +kernel, by decide +kernel⟩
set_option maxRecDepth 20000 in
theorem k_Mod_isUnder_j81 {l : Launch} {X : zX} (hl : l.stackTraces = false) {h : zH} {v1 : Int32} {v2 : Int32} {v4 : Int32} {t0 : Int32} : zGl l m_Mod_isUnder X 0 0 (f_Mod_isUnder_j81 h v1 v2 v4 t0) (81, [some (zr (some (11, 333))), some (zi v1), some (zi v2), none, some (zi v4)], [zi t0], h) (Sum.elim (fun s : Int32 × Int32 => .inl (33, [some (zr (some (11, 333))), some (zi v1), some (zi v2), some (zi s.1), some (zi s.2)], [], h)) (fun y : Int32 => .inl (88, [none, none, none, some (zi y), none], [], h))) := by
  unfold f_Mod_isUnder_j81
  refine zG_run t_Mod [(.istore_n 3, 0, 0), (.iinc 4 1, 0, 0), (.goto (-52), 0, 0)] (33, [some (zr (some (11, 333))), some (zi v1), some (zi v2), some (zi t0), some (zi (v4 + 1))], [], h) (by decide +kernel) rfl ?_
  exact zG_end (L' := [some (zr (some (11, 333))), some (zi v1), some (zi v2), some (zi t0), some (zi (v4 + 1))]) rfl (And.intro rfl (And.intro rfl (And.intro rfl (And.intro rfl (And.intro rfl trivial)))))
set_option maxRecDepth 20000 in
theorem k_Mod_isUnder_b33 {l : Launch} {X : zX} (hl : l.stackTraces = false) {h : zH} {v1 : Int32} {v2 : Int32} {v3 : Int32} {v4 : Int32} : zGl l m_Mod_isUnder X 0 0 (f_Mod_isUnder_b33 h v1 v2 v3 v4) (33, [some (zr (some (11, 333))), some (zi v1), some (zi v2), some (zi v3), some (zi v4)], [], h) (Sum.elim (fun s : Int32 × Int32 => .inl (33, [some (zr (some (11, 333))), some (zi v1), some (zi v2), some (zi s.1), some (zi s.2)], [], h)) (fun y : Int32 => .inl (88, [none, none, none, some (zi y), none], [], h))) := by
  unfold f_Mod_isUnder_b33
  refine zG_run t_Mod [(.iload 4, 0, 0), (.aload_n 0, 0, 0)] (36, [some (zr (some (11, 333))), some (zi v1), some (zi v2), some (zi v3), some (zi v4)], [zr (some (11, 333)), zi v4], h) (by decide +kernel) rfl ?_
  refine zG_callV (idx := 323) (R := (fun a => (some (zi a), h))) (as := []) (rest := [zi v4]) (n := 0) (fun a ha => c_Mod_rows hl ha) (by decide +kernel) ⟨ok_Mod_rows, by decide, by decide +kernel⟩ rfl w_449 w_450 w_451 (by decide) rfl rfl rfl (Nat.le_of_ble_eq_true rfl) fun x2 => ?_
  refine zG_icmp (op := .ge) (off := 49) (tgt := 88) (by decide +kernel) rfl Iff.rfl (fun c8 => ?_) (fun c8 => ?_)
  · exact zG_end (L' := [none, none, none, some (zi v3), none]) rfl (And.intro rfl trivial)
  · refine zG_run t_Mod [(.iload_n 3, 0, 0)] (43, [some (zr (some (11, 333))), some (zi v1), some (zi v2), some (zi v3), some (zi v4)], [zi v3], h) (by decide +kernel) rfl ?_
    refine zG_if (op := .eq) (off := 37) (tgt := 80) (by decide +kernel) rfl Iff.rfl (fun c7 => ?_) (fun c7 => ?_)
    · refine zG_run t_Mod [(.iconst 0, 0, 0)] (81, [some (zr (some (11, 333))), some (zi v1), some (zi v2), some (zi v3), some (zi v4)], [zi 0], h) (by decide +kernel) rfl ?_
      exact zG_forget (L' := [some (zr (some (11, 333))), some (zi v1), some (zi v2), none, some (zi v4)]) (And.intro rfl (And.intro rfl (And.intro rfl (And.intro rfl trivial)))) (k_Mod_isUnder_j81 hl)
    · refine zG_run t_Mod [(.aload_n 0, 0, 0), (.getfield 96, 11, 30), (.bipush 64, 0, 0), (.iload_n 1, 0, 0), (.imul, 0, 0), (.iload 4, 0, 0), (.iadd, 0, 0)] (57, [some (zr (some (11, 333))), some (zi v1), some (zi v2), some (zi v3), some (zi v4)], [zi ((64 * v1) + v4), zr (some (79, 353))], h) (by decide +kernel) rfl ?_
      refine zG_ald (v := zi (h.1 353 ((64 * v1) + v4).toNatClampNeg)) (n := 2816) rfl (by decide +kernel) rfl rfl fun hb3 => ?_
      refine zG_if (op := .eq) (off := 18) (tgt := 76) (by decide +kernel) rfl Iff.rfl (fun c6 => ?_) (fun c6 => ?_)
      · refine zG_run t_Mod [(.iconst 1, 0, 0), (.goto 4, 0, 0)] (81, [some (zr (some (11, 333))), some (zi v1), some (zi v2), some (zi v3), some (zi v4)], [zi 1], h) (by decide +kernel) rfl ?_
        exact zG_forget (L' := [some (zr (some (11, 333))), some (zi v1), some (zi v2), none, some (zi v4)]) (And.intro rfl (And.intro rfl (And.intro rfl (And.intro rfl trivial)))) (k_Mod_isUnder_j81 hl)
      · refine zG_run t_Mod [(.aload_n 0, 0, 0), (.getfield 96, 11, 30), (.bipush 64, 0, 0), (.iload_n 2, 0, 0), (.imul, 0, 0), (.iload 4, 0, 0), (.iadd, 0, 0)] (72, [some (zr (some (11, 333))), some (zi v1), some (zi v2), some (zi v3), some (zi v4)], [zi ((64 * v2) + v4), zr (some (79, 353))], h) (by decide +kernel) rfl ?_
        refine zG_ald (v := zi (h.1 353 ((64 * v2) + v4).toNatClampNeg)) (n := 2816) rfl (by decide +kernel) rfl rfl fun hb4 => ?_
        refine zG_if (op := .eq) (off := 7) (tgt := 80) (by decide +kernel) rfl Iff.rfl (fun c5 => ?_) (fun c5 => ?_)
        · refine zG_run t_Mod [(.iconst 0, 0, 0)] (81, [some (zr (some (11, 333))), some (zi v1), some (zi v2), some (zi v3), some (zi v4)], [zi 0], h) (by decide +kernel) rfl ?_
          exact zG_forget (L' := [some (zr (some (11, 333))), some (zi v1), some (zi v2), none, some (zi v4)]) (And.intro rfl (And.intro rfl (And.intro rfl (And.intro rfl trivial)))) (k_Mod_isUnder_j81 hl)
        · refine zG_run t_Mod [(.iconst 1, 0, 0), (.goto 4, 0, 0)] (81, [some (zr (some (11, 333))), some (zi v1), some (zi v2), some (zi v3), some (zi v4)], [zi 1], h) (by decide +kernel) rfl ?_
          exact zG_forget (L' := [some (zr (some (11, 333))), some (zi v1), some (zi v2), none, some (zi v4)]) (And.intro rfl (And.intro rfl (And.intro rfl (And.intro rfl trivial)))) (k_Mod_isUnder_j81 hl)
set_option maxRecDepth 20000 in
theorem k_Mod_isUnder_j29 {l : Launch} {X : zX} (hl : l.stackTraces = false) {h : zH} {v1 : Int32} {v2 : Int32} {t0 : Int32} : zGl l m_Mod_isUnder X 0 0 (f_Mod_isUnder_j29 h v1 v2 t0) (29, [some (zr (some (11, 333))), some (zi v1), some (zi v2), none, none], [zi t0], h) (fun x => .inr ((fun a => (.inl (some (zi a)), h) : Int32 → zF) x)) := by
  unfold f_Mod_isUnder_j29
  refine zG_run t_Mod [(.istore_n 3, 0, 0), (.iconst 0, 0, 0), (.istore 4, 0, 0)] (33, [some (zr (some (11, 333))), some (zi v1), some (zi v2), some (zi t0), some (zi 0)], [], h) (by decide +kernel) rfl ?_
  refine zG_forget (L' := [some (zr (some (11, 333))), some (zi v1), some (zi v2), some (zi t0), some (zi 0)]) (And.intro rfl (And.intro rfl (And.intro rfl (And.intro rfl (And.intro rfl trivial))))) ?_
  refine zG_bind (fun y : Int32 => (88, [none, none, none, some (zi y), none], [], h)) (zG_iter (fun s : Int32 × Int32 => (33, [some (zr (some (11, 333))), some (zi v1), some (zi v2), some (zi s.1), some (zi s.2)], [], h)) fun s => k_Mod_isUnder_b33 hl) (fun y10 => ?_)
  refine zG_run t_Mod [(.iload_n 3, 0, 0)] (89, [none, none, none, some (zi y10), none], [zi y10], h) (by decide +kernel) rfl ?_
  refine zG_guard fun hb11 => ?_
  exact zG_ret (r := some (zi y10)) rfl (zrd_z rfl (by decide +kernel) hb11)
set_option maxRecDepth 20000 in
theorem k_Mod_isUnder {l : Launch} {X : zX} (hl : l.stackTraces = false) {h : zH} {v1 : Int32} {v2 : Int32} : zGl l m_Mod_isUnder X 0 0 (f_Mod_isUnder h v1 v2) (0, [some (zr (some (11, 333))), some (zi v1), some (zi v2), none, none], [], h) (fun x => .inr ((fun a => (.inl (some (zi a)), h) : Int32 → zF) x)) := by
  unfold f_Mod_isUnder
  refine zG_run t_Mod [(.aload_n 0, 0, 0), (.getfield 109, 11, 34), (.iload_n 1, 0, 0)] (5, [some (zr (some (11, 333))), some (zi v1), some (zi v2), none, none], [zi v1, zr (some (83, 357))], h) (by decide +kernel) rfl ?_
  refine zG_ald (v := zi (h.1 357 v1.toNatClampNeg)) (n := 44) rfl (by decide +kernel) rfl rfl fun hb1 => ?_
  refine zG_if (op := .ne) (off := 22) (tgt := 28) (by decide +kernel) rfl Iff.rfl (fun c15 => ?_) (fun c15 => ?_)
  · refine zG_run t_Mod [(.iconst 0, 0, 0)] (29, [some (zr (some (11, 333))), some (zi v1), some (zi v2), none, none], [zi 0], h) (by decide +kernel) rfl ?_
    exact zG_forget (L' := [some (zr (some (11, 333))), some (zi v1), some (zi v2), none, none]) (And.intro rfl (And.intro rfl (And.intro rfl trivial))) (k_Mod_isUnder_j29 hl)
  · refine zG_run t_Mod [(.aload_n 0, 0, 0), (.getfield 100, 11, 31), (.iload_n 2, 0, 0)] (14, [some (zr (some (11, 333))), some (zi v1), some (zi v2), none, none], [zi v2, zr (some (80, 354))], h) (by decide +kernel) rfl ?_
    refine zG_ald (v := zi (h.1 354 v2.toNatClampNeg)) (n := 44) rfl (by decide +kernel) rfl rfl fun hb12 => ?_
    refine zG_run t_Mod [(.aload_n 0, 0, 0), (.getfield 100, 11, 31), (.iload_n 1, 0, 0)] (20, [some (zr (some (11, 333))), some (zi v1), some (zi v2), none, none], [zi v1, zr (some (80, 354)), zi (h.1 354 v2.toNatClampNeg)], h) (by decide +kernel) rfl ?_
    refine zG_ald (v := zi (h.1 354 v1.toNatClampNeg)) (n := 44) rfl (by decide +kernel) rfl rfl fun hb13 => ?_
    refine zG_icmp (op := .le) (off := 7) (tgt := 28) (by decide +kernel) rfl Iff.rfl (fun c14 => ?_) (fun c14 => ?_)
    · refine zG_run t_Mod [(.iconst 0, 0, 0)] (29, [some (zr (some (11, 333))), some (zi v1), some (zi v2), none, none], [zi 0], h) (by decide +kernel) rfl ?_
      exact zG_forget (L' := [some (zr (some (11, 333))), some (zi v1), some (zi v2), none, none]) (And.intro rfl (And.intro rfl (And.intro rfl trivial))) (k_Mod_isUnder_j29 hl)
    · refine zG_run t_Mod [(.iconst 1, 0, 0), (.goto 4, 0, 0)] (29, [some (zr (some (11, 333))), some (zi v1), some (zi v2), none, none], [zi 1], h) (by decide +kernel) rfl ?_
      exact zG_forget (L' := [some (zr (some (11, 333))), some (zi v1), some (zi v2), none, none]) (And.intro rfl (And.intro rfl (And.intro rfl trivial))) (k_Mod_isUnder_j29 hl)
theorem c_Mod_isUnder {l : Launch} {X : zX} (hl : l.stackTraces = false) {h : zH} {v1 : Int32} {v2 : Int32} {x : Int32} (hx : f_Mod_isUnder h v1 v2 = some x) : zCt l (true, 2) 2 m_Mod_isUnder X 0 0 [zr (some (11, 333)), zi v1, zi v2] h ((fun a => (.inl (some (zi a)), h) : Int32 → zF) x) :=
  zG_ct (R := fun a => (.inl (some (zi a)), h)) (x := x) ok_Mod_isUnder hl (Nat.le_of_ble_eq_true rfl) hx (k_Mod_isUnder hl)
def m_Mod_undersOf : zM := (({ cls := "ScanPackerModel", name := "undersOf", desc := "(I)I" } : Jvm.MethodName), prog_13_method_48_code, 4, (Option.some Jvm.ClassFile.FieldType.int), [], 3)
theorem ok_Mod_undersOf : zMok m_Mod_undersOf := ⟨by decide +kernel, zW_of 1878 (by decide +kernel) (by decide +kernel), zW_of 134 (by decide +kernel) (by decide +kernel), by decide, by decide +kernel, by decide +kernel⟩
set_option maxRecDepth 20000 in
theorem k_Mod_undersOf_j27 {l : Launch} {X : zX} (hl : l.stackTraces = false) {h : zH} {v1 : Int32} {v3 : Int32} {t0 : Int32} {t1 : Int32} : zGl l m_Mod_undersOf X 0 0 (f_Mod_undersOf_j27 h v1 v3 t0 t1) (27, [some (zr (some (11, 333))), some (zi v1), none, some (zi v3)], [zi t0, zi t1], h) (Sum.elim (fun s : Int32 × Int32 => .inl (4, [some (zr (some (11, 333))), some (zi v1), some (zi s.1), some (zi s.2)], [], h)) (fun y : Int32 => .inl (35, [none, none, some (zi y), none], [], h))) := by
  unfold f_Mod_undersOf_j27
  refine zG_run t_Mod [(.iadd, 0, 0), (.istore_n 2, 0, 0), (.iinc 3 1, 0, 0), (.goto (-28), 0, 0)] (4, [some (zr (some (11, 333))), some (zi v1), some (zi (t1 + t0)), some (zi (v3 + 1))], [], h) (by decide +kernel) rfl ?_
  exact zG_end (L' := [some (zr (some (11, 333))), some (zi v1), some (zi (t1 + t0)), some (zi (v3 + 1))]) rfl (And.intro rfl (And.intro rfl (And.intro rfl (And.intro rfl trivial))))
set_option maxRecDepth 20000 in
theorem k_Mod_undersOf_b4 {l : Launch} {X : zX} (hl : l.stackTraces = false) {h : zH} {v1 : Int32} {v2 : Int32} {v3 : Int32} : zGl l m_Mod_undersOf X 0 0 (f_Mod_undersOf_b4 h v1 v2 v3) (4, [some (zr (some (11, 333))), some (zi v1), some (zi v2), some (zi v3)], [], h) (Sum.elim (fun s : Int32 × Int32 => .inl (4, [some (zr (some (11, 333))), some (zi v1), some (zi s.1), some (zi s.2)], [], h)) (fun y : Int32 => .inl (35, [none, none, some (zi y), none], [], h))) := by
  unfold f_Mod_undersOf_b4
  refine zG_run t_Mod [(.iload_n 3, 0, 0), (.aload_n 0, 0, 0)] (6, [some (zr (some (11, 333))), some (zi v1), some (zi v2), some (zi v3)], [zr (some (11, 333)), zi v3], h) (by decide +kernel) rfl ?_
  refine zG_callV (idx := 332) (R := (fun a => (some (zi a), h))) (as := []) (rest := [zi v3]) (n := 0) (fun a ha => c_Mod_faults hl ha) (by decide +kernel) ⟨ok_Mod_faults, by decide, by decide +kernel⟩ rfl w_467 w_468 w_469 (by decide) rfl rfl rfl (Nat.le_of_ble_eq_true rfl) fun x1 => ?_
  refine zG_icmp (op := .ge) (off := 26) (tgt := 35) (by decide +kernel) rfl Iff.rfl (fun c4 => ?_) (fun c4 => ?_)
  · exact zG_end (L' := [none, none, some (zi v2), none]) rfl (And.intro rfl trivial)
  · refine zG_run t_Mod [(.iload_n 2, 0, 0), (.aload_n 0, 0, 0), (.iload_n 1, 0, 0), (.iload_n 3, 0, 0)] (16, [some (zr (some (11, 333))), some (zi v1), some (zi v2), some (zi v3)], [zi v3, zi v1, zr (some (11, 333)), zi v2], h) (by decide +kernel) rfl ?_
    refine zG_callV (idx := 352) (R := (fun a => (some (zi a), h))) (as := [zi v1, zi v3]) (rest := [zi v2]) (n := 2) (fun a ha => c_Mod_isUnder hl ha) (by decide +kernel) ⟨ok_Mod_isUnder, by decide, by decide +kernel⟩ rfl w_537 w_538 w_539 (by decide) rfl rfl rfl (Nat.le_of_ble_eq_true rfl) fun x2 => ?_
    refine zG_if (op := .eq) (off := 7) (tgt := 26) (by decide +kernel) rfl Iff.rfl (fun c3 => ?_) (fun c3 => ?_)
    · refine zG_run t_Mod [(.iconst 0, 0, 0)] (27, [some (zr (some (11, 333))), some (zi v1), some (zi v2), some (zi v3)], [zi 0, zi v2], h) (by decide +kernel) rfl ?_
      exact zG_forget (L' := [some (zr (some (11, 333))), some (zi v1), none, some (zi v3)]) (And.intro rfl (And.intro rfl (And.intro rfl trivial))) (k_Mod_undersOf_j27 hl)
    · refine zG_run t_Mod [(.iconst 1, 0, 0), (.goto 4, 0, 0)] (27, [some (zr (some (11, 333))), some (zi v1), some (zi v2), some (zi v3)], [zi 1, zi v2], h) (by decide +kernel) rfl ?_
      exact zG_forget (L' := [some (zr (some (11, 333))), some (zi v1), none, some (zi v3)]) (And.intro rfl (And.intro rfl (And.intro rfl trivial))) (k_Mod_undersOf_j27 hl)
set_option maxRecDepth 20000 in
theorem k_Mod_undersOf {l : Launch} {X : zX} (hl : l.stackTraces = false) {h : zH} {v1 : Int32} : zGl l m_Mod_undersOf X 0 0 (f_Mod_undersOf h v1) (0, [some (zr (some (11, 333))), some (zi v1), none, none], [], h) (fun x => .inr ((fun a => (.inl (some (zi a)), h) : Int32 → zF) x)) := by
  unfold f_Mod_undersOf
  refine zG_run t_Mod [(.iconst 0, 0, 0), (.istore_n 2, 0, 0), (.iconst 0, 0, 0), (.istore_n 3, 0, 0)] (4, [some (zr (some (11, 333))), some (zi v1), some (zi 0), some (zi 0)], [], h) (by decide +kernel) rfl ?_
  refine zG_forget (L' := [some (zr (some (11, 333))), some (zi v1), some (zi 0), some (zi 0)]) (And.intro rfl (And.intro rfl (And.intro rfl (And.intro rfl trivial)))) ?_
  refine zG_bind (fun y : Int32 => (35, [none, none, some (zi y), none], [], h)) (zG_iter (fun s : Int32 × Int32 => (4, [some (zr (some (11, 333))), some (zi v1), some (zi s.1), some (zi s.2)], [], h)) fun s => k_Mod_undersOf_b4 hl) (fun y6 => ?_)
  refine zG_run t_Mod [(.iload_n 2, 0, 0)] (36, [none, none, some (zi y6), none], [zi y6], h) (by decide +kernel) rfl ?_
  exact zG_ret (r := some (zi y6)) rfl (zrd_i rfl (by decide +kernel))
theorem c_Mod_undersOf {l : Launch} {X : zX} (hl : l.stackTraces = false) {h : zH} {v1 : Int32} {x : Int32} (hx : f_Mod_undersOf h v1 = some x) : zCt l (true, 2) 2 m_Mod_undersOf X 0 0 [zr (some (11, 333)), zi v1] h ((fun a => (.inl (some (zi a)), h) : Int32 → zF) x) :=
  zG_ct (R := fun a => (.inl (some (zi a)), h)) (x := x) ok_Mod_undersOf hl (Nat.le_of_ble_eq_true rfl) hx (k_Mod_undersOf hl)
def m_Mod_test : zM := (({ cls := "ScanPackerModel", name := "test", desc := "(II)I" } : Jvm.MethodName), prog_13_method_67_code, 3, (Option.some Jvm.ClassFile.FieldType.int), [], 4)
theorem ok_Mod_test : zMok m_Mod_test := ⟨by decide +kernel, zW_of 1870 (by decide +kernel) (by decide +kernel), zW_of 134 (by decide +kernel) (by decide +kernel), by decide, by decide +kernel, by decide +kernel⟩
set_option maxRecDepth 20000 in
theorem k_Mod_test {l : Launch} {X : zX} (hl : l.stackTraces = false) {h : zH} {v1 : Int32} {v2 : Int32} : zGl l m_Mod_test X 0 0 (f_Mod_test h v1 v2) (0, [some (zr (some (11, 333))), some (zi v1), some (zi v2)], [], h) (fun x => .inr ((fun a => (.inl (some (zi a.1)), a.2) : Int32 × zH → zF) x)) := by
  unfold f_Mod_test
  refine zG_bind (fun y => (5, [some (zr (some (11, 333))), some (zi v1), some (zi v2)], [], y)) (zG_run t_Mod [(.aload_n 0, 0, 0), (.iconst 0, 0, 0), (.putfield 181, 11, 2)] (5, [some (zr (some (11, 333))), some (zi v1), some (zi v2)], [], zsI h 333 2 0) (by decide +kernel) rfl (zG_end (L' := [some (zr (some (11, 333))), some (zi v1), some (zi v2)]) rfl (And.intro rfl (And.intro rfl (And.intro rfl trivial))))) fun h1 => ?_
  refine zG_run t_Mod [(.aload_n 0, 0, 0), (.iload_n 1, 0, 0)] (7, [some (zr (some (11, 333))), some (zi v1), some (zi v2)], [zi v1, zr (some (11, 333))], h1) (by decide +kernel) rfl ?_
  refine zG_callV (idx := 401) (R := (fun a => (some (zi a), h1))) (as := [zi v1]) (rest := []) (n := 1) (fun a ha => c_Mod_isFault hl ha) (by decide +kernel) ⟨ok_Mod_isFault, by decide, by decide +kernel⟩ rfl w_534 w_535 w_536 (by decide) rfl rfl rfl (Nat.le_of_ble_eq_true rfl) fun x2 => ?_
  refine zG_if (op := .ne) (off := 9) (tgt := 19) (by decide +kernel) rfl Iff.rfl (fun c17 => ?_) (fun c17 => ?_)
  · refine zG_run t_Mod [(.iload_n 2, 0, 0)] (20, [some (zr (some (11, 333))), some (zi v1), some (zi v2)], [zi v2], h1) (by decide +kernel) rfl ?_
    refine zG_case (fun c4 => ?_) (fun c4 => ?_)
    · refine zG_tin (k := 0) (off := 40) (tgt := 60) (dflt := 83) (lo := 0) (hi := 5) (offs := #[40, 47, 54, 60, 66, 76]) (len := 40) c4 (by decide +kernel) (by decide +kernel) ?_
      refine zG_run t_Mod [(.aload_n 0, 0, 0), (.getfield 100, 11, 31), (.iload_n 1, 0, 0)] (65, [some (zr (some (11, 333))), some (zi v1), some (zi v2)], [zi v1, zr (some (80, 354))], h1) (by decide +kernel) rfl ?_
      refine zG_ald (v := zi (h1.1 354 v1.toNatClampNeg)) (n := 44) rfl (by decide +kernel) rfl rfl fun hb3 => ?_
      exact zG_ret (r := some (zi (h1.1 354 v1.toNatClampNeg))) rfl (zrd_i rfl (by decide +kernel))
    · refine zG_case (fun c6 => ?_) (fun c6 => ?_)
      · refine zG_tin (k := 1) (off := 47) (tgt := 67) (dflt := 83) (lo := 0) (hi := 5) (offs := #[40, 47, 54, 60, 66, 76]) (len := 40) c6 (by decide +kernel) (by decide +kernel) ?_
        refine zG_run t_Mod [(.aload_n 0, 0, 0), (.getfield 109, 11, 34), (.iload_n 1, 0, 0)] (72, [some (zr (some (11, 333))), some (zi v1), some (zi v2)], [zi v1, zr (some (83, 357))], h1) (by decide +kernel) rfl ?_
        refine zG_ald (v := zi (h1.1 357 v1.toNatClampNeg)) (n := 44) rfl (by decide +kernel) rfl rfl fun hb5 => ?_
        exact zG_ret (r := some (zi (h1.1 357 v1.toNatClampNeg))) rfl (zrd_i rfl (by decide +kernel))
      · refine zG_case (fun c8 => ?_) (fun c8 => ?_)
        · refine zG_tin (k := 2) (off := 54) (tgt := 74) (dflt := 83) (lo := 0) (hi := 5) (offs := #[40, 47, 54, 60, 66, 76]) (len := 40) c8 (by decide +kernel) (by decide +kernel) ?_
          refine zG_run t_Mod [(.aload_n 0, 0, 0), (.iload_n 1, 0, 0)] (76, [some (zr (some (11, 333))), some (zi v1), some (zi v2)], [zi v1, zr (some (11, 333))], h1) (by decide +kernel) rfl ?_
          refine zG_callV (idx := 355) (R := (fun a => (some (zi a), h1))) (as := [zi v1]) (rest := []) (n := 1) (fun a ha => c_Mod_leastAlike hl ha) (by decide +kernel) ⟨ok_Mod_leastAlike, by decide, by decide +kernel⟩ rfl w_499 w_500 w_501 (by decide) rfl rfl rfl (Nat.le_of_ble_eq_true rfl) fun x7 => ?_
          exact zG_ret (r := some (zi x7)) rfl (zrd_i rfl (by decide +kernel))
        · refine zG_case (fun c10 => ?_) (fun c10 => ?_)
          · refine zG_tin (k := 3) (off := 60) (tgt := 80) (dflt := 83) (lo := 0) (hi := 5) (offs := #[40, 47, 54, 60, 66, 76]) (len := 40) c10 (by decide +kernel) (by decide +kernel) ?_
            refine zG_run t_Mod [(.aload_n 0, 0, 0), (.iload_n 1, 0, 0)] (82, [some (zr (some (11, 333))), some (zi v1), some (zi v2)], [zi v1, zr (some (11, 333))], h1) (by decide +kernel) rfl ?_
            refine zG_callV (idx := 404) (R := (fun a => (some (zi a), h1))) (as := [zi v1]) (rest := []) (n := 1) (fun a ha => c_Mod_undersOf hl ha) (by decide +kernel) ⟨ok_Mod_undersOf, by decide, by decide +kernel⟩ rfl w_540 w_541 w_542 (by decide) rfl rfl rfl (Nat.le_of_ble_eq_true rfl) fun x9 => ?_
            exact zG_ret (r := some (zi x9)) rfl (zrd_i rfl (by decide +kernel))
          · refine zG_case (fun c12 => ?_) (fun c12 => ?_)
            · refine zG_tin (k := 4) (off := 66) (tgt := 86) (dflt := 83) (lo := 0) (hi := 5) (offs := #[40, 47, 54, 60, 66, 76]) (len := 40) c12 (by decide +kernel) (by decide +kernel) ?_
              refine zG_run t_Mod [(.aload_n 0, 0, 0), (.getfield 74, 11, 14), (.bipush 13, 0, 0), (.iload_n 1, 0, 0), (.iadd, 0, 0)] (94, [some (zr (some (11, 333))), some (zi v1), some (zi v2)], [zi (13 + v1), zr (some (73, 347))], h1) (by decide +kernel) rfl ?_
              refine zG_ald (v := zi (h1.1 347 (13 + v1).toNatClampNeg)) (n := 57) rfl (by decide +kernel) rfl rfl fun hb11 => ?_
              exact zG_ret (r := some (zi (h1.1 347 (13 + v1).toNatClampNeg))) rfl (zrd_i rfl (by decide +kernel))
            · refine zG_case (fun c14 => ?_) (fun c14 => ?_)
              · refine zG_tin (k := 5) (off := 76) (tgt := 96) (dflt := 83) (lo := 0) (hi := 5) (offs := #[40, 47, 54, 60, 66, 76]) (len := 40) c14 (by decide +kernel) (by decide +kernel) ?_
                refine zG_run t_Mod [(.aload_n 0, 0, 0), (.getfield 106, 11, 33), (.iload_n 1, 0, 0)] (101, [some (zr (some (11, 333))), some (zi v1), some (zi v2)], [zi v1, zr (some (82, 356))], h1) (by decide +kernel) rfl ?_
                refine zG_ald (v := zi (h1.1 356 v1.toNatClampNeg)) (n := 44) rfl (by decide +kernel) rfl rfl fun hb13 => ?_
                exact zG_ret (r := some (zi (h1.1 356 v1.toNatClampNeg))) rfl (zrd_i rfl (by decide +kernel))
              · have e0 : Int32.toInt v2 ≠ 0 := zne (k := 0) c4
                have e1 : Int32.toInt v2 ≠ 1 := zne (k := 1) c6
                have e2 : Int32.toInt v2 ≠ 2 := zne (k := 2) c8
                have e3 : Int32.toInt v2 ≠ 3 := zne (k := 3) c10
                have e4 : Int32.toInt v2 ≠ 4 := zne (k := 4) c12
                have e5 : Int32.toInt v2 ≠ 5 := zne (k := 5) c14
                refine zG_tout (tgt := 103) (dflt := 83) (lo := 0) (hi := 5) (offs := #[40, 47, 54, 60, 66, 76]) (len := 40) (by omega) (by decide +kernel) rfl ?_
                refine zG_run t_Mod [(.aload_n 0, 0, 0), (.iconst 1, 0, 0)] (105, [some (zr (some (11, 333))), some (zi v1), some (zi v2)], [zi 1, zr (some (11, 333))], h1) (by decide +kernel) rfl ?_
                refine zG_callV (idx := 288) (R := (fun a => (some (zi a.1), a.2))) (as := [zi 1]) (rest := []) (n := 1) (fun a ha => c_Mod_fail hl ha) (by decide +kernel) ⟨ok_Mod_fail, by decide, by decide +kernel⟩ rfl w_378 w_379 w_380 (by decide) rfl rfl rfl (Nat.le_of_ble_eq_true rfl) fun x15 => ?_
                exact zG_ret (r := some (zi x15.1)) rfl (zrd_i rfl (by decide +kernel))
  · refine zG_run t_Mod [(.aload_n 0, 0, 0), (.iconst 1, 0, 0)] (15, [some (zr (some (11, 333))), some (zi v1), some (zi v2)], [zi 1, zr (some (11, 333))], h1) (by decide +kernel) rfl ?_
    refine zG_callV (idx := 288) (R := (fun a => (some (zi a.1), a.2))) (as := [zi 1]) (rest := []) (n := 1) (fun a ha => c_Mod_fail hl ha) (by decide +kernel) ⟨ok_Mod_fail, by decide, by decide +kernel⟩ rfl w_378 w_379 w_380 (by decide) rfl rfl rfl (Nat.le_of_ble_eq_true rfl) fun x16 => ?_
    exact zG_ret (r := some (zi x16.1)) rfl (zrd_i rfl (by decide +kernel))
theorem c_Mod_test {l : Launch} {X : zX} (hl : l.stackTraces = false) {h : zH} {v1 : Int32} {v2 : Int32} {x : Int32 × zH} (hx : f_Mod_test h v1 v2 = some x) : zCt l (true, 2) 2 m_Mod_test X 0 0 [zr (some (11, 333)), zi v1, zi v2] h ((fun a => (.inl (some (zi a.1)), a.2) : Int32 × zH → zF) x) :=
  zG_ct (R := fun a => (.inl (some (zi a.1)), a.2)) (x := x) ok_Mod_test hl (Nat.le_of_ble_eq_true rfl) hx (k_Mod_test hl)
def m_Mod_row : zM := (({ cls := "ScanPackerModel", name := "row", desc := "(II)I" } : Jvm.MethodName), prog_13_method_68_code, 5, (Option.some Jvm.ClassFile.FieldType.int), [], 4)
theorem ok_Mod_row : zMok m_Mod_row := ⟨by decide +kernel, zW_of 1886 (by decide +kernel) (by decide +kernel), zW_of 134 (by decide +kernel) (by decide +kernel), by decide, by decide +kernel, by decide +kernel⟩
set_option maxRecDepth 20000 in
theorem k_Mod_row_j29 {l : Launch} {X : zX} (hl : l.stackTraces = false) {h : zH} : zGl l m_Mod_row X 0 0 (f_Mod_row_j29 h) (29, [some (zr (some (11, 333))), none, none, none, none], [], h) (fun x => .inr ((fun a => (.inl (some (zi a.1)), a.2) : Int32 × zH → zF) x)) := by
  unfold f_Mod_row_j29
  refine zG_run t_Mod [(.aload_n 0, 0, 0), (.iconst 1, 0, 0)] (31, [some (zr (some (11, 333))), none, none, none, none], [zi 1, zr (some (11, 333))], h) (by decide +kernel) rfl ?_
  refine zG_callV (idx := 288) (R := (fun a => (some (zi a.1), a.2))) (as := [zi 1]) (rest := []) (n := 1) (fun a ha => c_Mod_fail hl ha) (by decide +kernel) ⟨ok_Mod_fail, by decide, by decide +kernel⟩ rfl w_378 w_379 w_380 (by decide) rfl rfl rfl (Nat.le_of_ble_eq_true rfl) fun x3 => ?_
  exact zG_ret (r := some (zi x3.1)) rfl (zrd_i rfl (by decide +kernel))
set_option maxRecDepth 20000 in
theorem k_Mod_row_j80 {l : Launch} {X : zX} (hl : l.stackTraces = false) {h : zH} {v1 : Int32} {v4 : Int32} {t0 : Int32} {t1 : Int32} : zGl l m_Mod_row X 0 0 (f_Mod_row_j80 h v1 v4 t0 t1) (80, [some (zr (some (11, 333))), some (zi v1), none, none, some (zi v4)], [zi t0, zi t1], h) (Sum.elim (fun s : Int32 × Int32 => .inl (40, [some (zr (some (11, 333))), some (zi v1), none, some (zi s.1), some (zi s.2)], [], h)) (fun y : Int32 => .inl (88, [none, none, none, none, some (zi y)], [], h))) := by
  unfold f_Mod_row_j80
  refine zG_run t_Mod [(.isub, 0, 0), (.istore_n 3, 0, 0), (.iinc 4 1, 0, 0), (.goto (-45), 0, 0)] (40, [some (zr (some (11, 333))), some (zi v1), none, some (zi (t1 - t0)), some (zi (v4 + 1))], [], h) (by decide +kernel) rfl ?_
  exact zG_end (L' := [some (zr (some (11, 333))), some (zi v1), none, some (zi (t1 - t0)), some (zi (v4 + 1))]) rfl (And.intro rfl (And.intro rfl (And.intro rfl (And.intro rfl trivial))))
set_option maxRecDepth 20000 in
theorem k_Mod_row_j59 {l : Launch} {X : zX} (hl : l.stackTraces = false) {h : zH} {v1 : Int32} {v3 : Int32} {v4 : Int32} : zGl l m_Mod_row X 0 0 (f_Mod_row_j59 h v1 v3 v4) (59, [some (zr (some (11, 333))), some (zi v1), none, some (zi v3), some (zi v4)], [], h) (Sum.elim (fun s : Int32 × Int32 => .inl (40, [some (zr (some (11, 333))), some (zi v1), none, some (zi s.1), some (zi s.2)], [], h)) (fun y : Int32 => .inl (88, [none, none, none, none, some (zi y)], [], h))) := by
  unfold f_Mod_row_j59
  refine zG_run t_Mod [(.iload_n 3, 0, 0), (.aload_n 0, 0, 0), (.getfield 96, 11, 30), (.bipush 64, 0, 0), (.iload_n 1, 0, 0), (.imul, 0, 0), (.iload 4, 0, 0), (.iadd, 0, 0)] (71, [some (zr (some (11, 333))), some (zi v1), none, some (zi v3), some (zi v4)], [zi ((64 * v1) + v4), zr (some (79, 353)), zi v3], h) (by decide +kernel) rfl ?_
  refine zG_ald (v := zi (h.1 353 ((64 * v1) + v4).toNatClampNeg)) (n := 2816) rfl (by decide +kernel) rfl rfl fun hb7 => ?_
  refine zG_if (op := .eq) (off := 7) (tgt := 79) (by decide +kernel) rfl Iff.rfl (fun c8 => ?_) (fun c8 => ?_)
  · refine zG_run t_Mod [(.iconst 0, 0, 0)] (80, [some (zr (some (11, 333))), some (zi v1), none, some (zi v3), some (zi v4)], [zi 0, zi v3], h) (by decide +kernel) rfl ?_
    exact zG_forget (L' := [some (zr (some (11, 333))), some (zi v1), none, none, some (zi v4)]) (And.intro rfl (And.intro rfl (And.intro rfl trivial))) (k_Mod_row_j80 hl)
  · refine zG_run t_Mod [(.iconst 1, 0, 0), (.goto 4, 0, 0)] (80, [some (zr (some (11, 333))), some (zi v1), none, some (zi v3), some (zi v4)], [zi 1, zi v3], h) (by decide +kernel) rfl ?_
    exact zG_forget (L' := [some (zr (some (11, 333))), some (zi v1), none, none, some (zi v4)]) (And.intro rfl (And.intro rfl (And.intro rfl trivial))) (k_Mod_row_j80 hl)
set_option maxRecDepth 20000 in
theorem k_Mod_row_b40 {l : Launch} {X : zX} (hl : l.stackTraces = false) {h : zH} {v1 : Int32} {v3 : Int32} {v4 : Int32} : zGl l m_Mod_row X 0 0 (f_Mod_row_b40 h v1 v3 v4) (40, [some (zr (some (11, 333))), some (zi v1), none, some (zi v3), some (zi v4)], [], h) (Sum.elim (fun s : Int32 × Int32 => .inl (40, [some (zr (some (11, 333))), some (zi v1), none, some (zi s.1), some (zi s.2)], [], h)) (fun y : Int32 => .inl (88, [none, none, none, none, some (zi y)], [], h))) := by
  unfold f_Mod_row_b40
  refine zG_run t_Mod [(.aload_n 0, 0, 0), (.getfield 96, 11, 30), (.bipush 64, 0, 0), (.iload_n 1, 0, 0), (.imul, 0, 0), (.iload 4, 0, 0), (.iadd, 0, 0)] (51, [some (zr (some (11, 333))), some (zi v1), none, some (zi v3), some (zi v4)], [zi ((64 * v1) + v4), zr (some (79, 353))], h) (by decide +kernel) rfl ?_
  refine zG_ald (v := zi (h.1 353 ((64 * v1) + v4).toNatClampNeg)) (n := 2816) rfl (by decide +kernel) rfl rfl fun hb6 => ?_
  refine zG_if (op := .eq) (off := 7) (tgt := 59) (by decide +kernel) rfl Iff.rfl (fun c10 => ?_) (fun c10 => ?_)
  · exact zG_forget (L' := [some (zr (some (11, 333))), some (zi v1), none, some (zi v3), some (zi v4)]) (And.intro rfl (And.intro rfl (And.intro rfl (And.intro rfl trivial)))) (k_Mod_row_j59 hl)
  · refine zG_run t_Mod [(.iload_n 3, 0, 0)] (56, [some (zr (some (11, 333))), some (zi v1), none, some (zi v3), some (zi v4)], [zi v3], h) (by decide +kernel) rfl ?_
    refine zG_if (op := .le) (off := 32) (tgt := 88) (by decide +kernel) rfl Iff.rfl (fun c9 => ?_) (fun c9 => ?_)
    · exact zG_end (L' := [none, none, none, none, some (zi v4)]) rfl (And.intro rfl trivial)
    · exact zG_forget (L' := [some (zr (some (11, 333))), some (zi v1), none, some (zi v3), some (zi v4)]) (And.intro rfl (And.intro rfl (And.intro rfl (And.intro rfl trivial)))) (k_Mod_row_j59 hl)
set_option maxRecDepth 20000 in
theorem k_Mod_row {l : Launch} {X : zX} (hl : l.stackTraces = false) {h : zH} {v1 : Int32} {v2 : Int32} : zGl l m_Mod_row X 0 0 (f_Mod_row h v1 v2) (0, [some (zr (some (11, 333))), some (zi v1), some (zi v2), none, none], [], h) (fun x => .inr ((fun a => (.inl (some (zi a.1)), a.2) : Int32 × zH → zF) x)) := by
  unfold f_Mod_row
  refine zG_bind (fun y => (5, [some (zr (some (11, 333))), some (zi v1), some (zi v2), none, none], [], y)) (zG_run t_Mod [(.aload_n 0, 0, 0), (.iconst 0, 0, 0), (.putfield 181, 11, 2)] (5, [some (zr (some (11, 333))), some (zi v1), some (zi v2), none, none], [], zsI h 333 2 0) (by decide +kernel) rfl (zG_end (L' := [some (zr (some (11, 333))), some (zi v1), some (zi v2), none, none]) rfl (And.intro rfl (And.intro rfl (And.intro rfl trivial))))) fun h1 => ?_
  refine zG_run t_Mod [(.aload_n 0, 0, 0), (.iload_n 1, 0, 0)] (7, [some (zr (some (11, 333))), some (zi v1), some (zi v2), none, none], [zi v1, zr (some (11, 333))], h1) (by decide +kernel) rfl ?_
  refine zG_callV (idx := 401) (R := (fun a => (some (zi a), h1))) (as := [zi v1]) (rest := []) (n := 1) (fun a ha => c_Mod_isFault hl ha) (by decide +kernel) ⟨ok_Mod_isFault, by decide, by decide +kernel⟩ rfl w_534 w_535 w_536 (by decide) rfl rfl rfl (Nat.le_of_ble_eq_true rfl) fun x2 => ?_
  refine zG_if (op := .eq) (off := 19) (tgt := 29) (by decide +kernel) rfl Iff.rfl (fun c14 => ?_) (fun c14 => ?_)
  · exact zG_forget (L' := [some (zr (some (11, 333))), none, none, none, none]) (And.intro rfl trivial) (k_Mod_row_j29 hl)
  · refine zG_run t_Mod [(.iload_n 2, 0, 0), (.iconst 0, 0, 0), (.aload_n 0, 0, 0), (.getfield 100, 11, 31), (.iload_n 1, 0, 0)] (20, [some (zr (some (11, 333))), some (zi v1), some (zi v2), none, none], [zi v1, zr (some (80, 354)), zi 0, zi v2], h1) (by decide +kernel) rfl ?_
    refine zG_ald (v := zi (h1.1 354 v1.toNatClampNeg)) (n := 44) rfl (by decide +kernel) rfl rfl fun hb4 => ?_
    refine zG_run t_Mod [(.iconst 1, 0, 0), (.isub, 0, 0)] (23, [some (zr (some (11, 333))), some (zi v1), some (zi v2), none, none], [zi ((h1.1 354 v1.toNatClampNeg) - 1), zi 0, zi v2], h1) (by decide +kernel) rfl ?_
    refine zG_callS (idx := 391) (R := (fun a => (some (zi a), h1))) (as := [zi v2, zi 0, zi ((h1.1 354 v1.toNatClampNeg) - 1)]) (rest := []) (n := 3) (fun a ha => c_Mod_isIn hl ha) (by decide +kernel) ⟨ok_Mod_isIn, by decide, by decide +kernel⟩ rfl w_526 w_527 rfl rfl (Nat.le_of_ble_eq_true rfl) fun x5 => ?_
    refine zG_if (op := .ne) (off := 9) (tgt := 35) (by decide +kernel) rfl Iff.rfl (fun c13 => ?_) (fun c13 => ?_)
    · refine zG_run t_Mod [(.iload_n 2, 0, 0), (.istore_n 3, 0, 0), (.iconst 0, 0, 0), (.istore 4, 0, 0)] (40, [some (zr (some (11, 333))), some (zi v1), some (zi v2), some (zi v2), some (zi 0)], [], h1) (by decide +kernel) rfl ?_
      refine zG_forget (L' := [some (zr (some (11, 333))), some (zi v1), none, some (zi v2), some (zi 0)]) (And.intro rfl (And.intro rfl (And.intro rfl (And.intro rfl trivial)))) ?_
      refine zG_bind (fun y : Int32 => (88, [none, none, none, none, some (zi y)], [], h1)) (zG_iter (fun s : Int32 × Int32 => (40, [some (zr (some (11, 333))), some (zi v1), none, some (zi s.1), some (zi s.2)], [], h1)) fun s => k_Mod_row_b40 hl) (fun y12 => ?_)
      refine zG_run t_Mod [(.iload 4, 0, 0)] (90, [none, none, none, none, some (zi y12)], [zi y12], h1) (by decide +kernel) rfl ?_
      exact zG_ret (r := some (zi y12)) rfl (zrd_i rfl (by decide +kernel))
    · exact zG_forget (L' := [some (zr (some (11, 333))), none, none, none, none]) (And.intro rfl trivial) (k_Mod_row_j29 hl)
theorem c_Mod_row {l : Launch} {X : zX} (hl : l.stackTraces = false) {h : zH} {v1 : Int32} {v2 : Int32} {x : Int32 × zH} (hx : f_Mod_row h v1 v2 = some x) : zCt l (true, 2) 2 m_Mod_row X 0 0 [zr (some (11, 333)), zi v1, zi v2] h ((fun a => (.inl (some (zi a.1)), a.2) : Int32 × zH → zF) x) :=
  zG_ct (R := fun a => (.inl (some (zi a.1)), a.2)) (x := x) ok_Mod_row hl (Nat.le_of_ble_eq_true rfl) hx (k_Mod_row hl)
def m_Mod_cube : zM := (({ cls := "ScanPackerModel", name := "cube", desc := "(II)I" } : Jvm.MethodName), prog_13_method_69_code, 3, (Option.some Jvm.ClassFile.FieldType.int), [], 4)
theorem ok_Mod_cube : zMok m_Mod_cube := ⟨by decide +kernel, zW_of 1890 (by decide +kernel) (by decide +kernel), zW_of 134 (by decide +kernel) (by decide +kernel), by decide, by decide +kernel, by decide +kernel⟩
set_option maxRecDepth 20000 in
theorem k_Mod_cube_j52 {l : Launch} {X : zX} (hl : l.stackTraces = false) {h : zH} : zGl l m_Mod_cube X 0 0 (f_Mod_cube_j52 h) (52, [some (zr (some (11, 333))), none, none], [], h) (fun x => .inr ((fun a => (.inl (some (zi a.1)), a.2) : Int32 × zH → zF) x)) := by
  unfold f_Mod_cube_j52
  refine zG_run t_Mod [(.aload_n 0, 0, 0), (.iconst 1, 0, 0)] (54, [some (zr (some (11, 333))), none, none], [zi 1, zr (some (11, 333))], h) (by decide +kernel) rfl ?_
  refine zG_callV (idx := 288) (R := (fun a => (some (zi a.1), a.2))) (as := [zi 1]) (rest := []) (n := 1) (fun a ha => c_Mod_fail hl ha) (by decide +kernel) ⟨ok_Mod_fail, by decide, by decide +kernel⟩ rfl w_378 w_379 w_380 (by decide) rfl rfl rfl (Nat.le_of_ble_eq_true rfl) fun x3 => ?_
  exact zG_ret (r := some (zi x3.1)) rfl (zrd_i rfl (by decide +kernel))
set_option maxRecDepth 20000 in
theorem k_Mod_cube {l : Launch} {X : zX} (hl : l.stackTraces = false) {h : zH} {v1 : Int32} {v2 : Int32} : zGl l m_Mod_cube X 0 0 (f_Mod_cube h v1 v2) (0, [some (zr (some (11, 333))), some (zi v1), some (zi v2)], [], h) (fun x => .inr ((fun a => (.inl (some (zi a.1)), a.2) : Int32 × zH → zF) x)) := by
  unfold f_Mod_cube
  refine zG_bind (fun y => (5, [some (zr (some (11, 333))), some (zi v1), some (zi v2)], [], y)) (zG_run t_Mod [(.aload_n 0, 0, 0), (.iconst 0, 0, 0), (.putfield 181, 11, 2)] (5, [some (zr (some (11, 333))), some (zi v1), some (zi v2)], [], zsI h 333 2 0) (by decide +kernel) rfl (zG_end (L' := [some (zr (some (11, 333))), some (zi v1), some (zi v2)]) rfl (And.intro rfl (And.intro rfl (And.intro rfl trivial))))) fun h1 => ?_
  refine zG_run t_Mod [(.aload_n 0, 0, 0), (.iload_n 1, 0, 0)] (7, [some (zr (some (11, 333))), some (zi v1), some (zi v2)], [zi v1, zr (some (11, 333))], h1) (by decide +kernel) rfl ?_
  refine zG_callV (idx := 401) (R := (fun a => (some (zi a), h1))) (as := [zi v1]) (rest := []) (n := 1) (fun a ha => c_Mod_isFault hl ha) (by decide +kernel) ⟨ok_Mod_isFault, by decide, by decide +kernel⟩ rfl w_534 w_535 w_536 (by decide) rfl rfl rfl (Nat.le_of_ble_eq_true rfl) fun x2 => ?_
  refine zG_if (op := .eq) (off := 42) (tgt := 52) (by decide +kernel) rfl Iff.rfl (fun c9 => ?_) (fun c9 => ?_)
  · exact zG_forget (L' := [some (zr (some (11, 333))), none, none]) (And.intro rfl trivial) (k_Mod_cube_j52 hl)
  · refine zG_run t_Mod [(.aload_n 0, 0, 0), (.getfield 109, 11, 34), (.iload_n 1, 0, 0)] (18, [some (zr (some (11, 333))), some (zi v1), some (zi v2)], [zi v1, zr (some (83, 357))], h1) (by decide +kernel) rfl ?_
    refine zG_ald (v := zi (h1.1 357 v1.toNatClampNeg)) (n := 44) rfl (by decide +kernel) rfl rfl fun hb4 => ?_
    refine zG_if (op := .ne) (off := 33) (tgt := 52) (by decide +kernel) rfl Iff.rfl (fun c8 => ?_) (fun c8 => ?_)
    · exact zG_forget (L' := [some (zr (some (11, 333))), none, none]) (And.intro rfl trivial) (k_Mod_cube_j52 hl)
    · refine zG_run t_Mod [(.iload_n 2, 0, 0), (.iconst 0, 0, 0), (.aload_n 0, 0, 0), (.getfield 40, 11, 3), (.iconst 0, 0, 0)] (29, [some (zr (some (11, 333))), some (zi v1), some (zi v2)], [zi 0, zr (some (62, 336)), zi 0, zi v2], h1) (by decide +kernel) rfl ?_
      refine zG_aldc (v := zi (h1.1 336 0)) rfl (by decide +kernel) (by decide +kernel) rfl ?_
      refine zG_run t_Mod [(.iconst 1, 0, 0), (.isub, 0, 0)] (32, [some (zr (some (11, 333))), some (zi v1), some (zi v2)], [zi ((h1.1 336 0) - 1), zi 0, zi v2], h1) (by decide +kernel) rfl ?_
      refine zG_callS (idx := 391) (R := (fun a => (some (zi a), h1))) (as := [zi v2, zi 0, zi ((h1.1 336 0) - 1)]) (rest := []) (n := 3) (fun a ha => c_Mod_isIn hl ha) (by decide +kernel) ⟨ok_Mod_isIn, by decide, by decide +kernel⟩ rfl w_526 w_527 rfl rfl (Nat.le_of_ble_eq_true rfl) fun x5 => ?_
      refine zG_if (op := .eq) (off := 17) (tgt := 52) (by decide +kernel) rfl Iff.rfl (fun c7 => ?_) (fun c7 => ?_)
      · exact zG_forget (L' := [some (zr (some (11, 333))), none, none]) (And.intro rfl trivial) (k_Mod_cube_j52 hl)
      · refine zG_run t_Mod [(.aload_n 0, 0, 0), (.getfield 103, 11, 32), (.bipush 6, 0, 0), (.iload_n 1, 0, 0), (.imul, 0, 0), (.iload_n 2, 0, 0), (.iadd, 0, 0)] (48, [some (zr (some (11, 333))), some (zi v1), some (zi v2)], [zi ((6 * v1) + v2), zr (some (81, 355))], h1) (by decide +kernel) rfl ?_
        refine zG_ald (v := zi (h1.1 355 ((6 * v1) + v2).toNatClampNeg)) (n := 264) rfl (by decide +kernel) rfl rfl fun hb6 => ?_
        refine zG_run t_Mod [(.goto 8, 0, 0)] (57, [some (zr (some (11, 333))), some (zi v1), some (zi v2)], [zi (h1.1 355 ((6 * v1) + v2).toNatClampNeg)], h1) (by decide +kernel) rfl ?_
        exact zG_ret (r := some (zi (h1.1 355 ((6 * v1) + v2).toNatClampNeg))) rfl (zrd_i rfl (by decide +kernel))
theorem c_Mod_cube {l : Launch} {X : zX} (hl : l.stackTraces = false) {h : zH} {v1 : Int32} {v2 : Int32} {x : Int32 × zH} (hx : f_Mod_cube h v1 v2 = some x) : zCt l (true, 2) 2 m_Mod_cube X 0 0 [zr (some (11, 333)), zi v1, zi v2] h ((fun a => (.inl (some (zi a.1)), a.2) : Int32 × zH → zF) x) :=
  zG_ct (R := fun a => (.inl (some (zi a.1)), a.2)) (x := x) ok_Mod_cube hl (Nat.le_of_ble_eq_true rfl) hx (k_Mod_cube hl)
def m_Mod_by : zM := (({ cls := "ScanPackerModel", name := "by", desc := "(III)I" } : Jvm.MethodName), prog_13_method_70_code, 6, (Option.some Jvm.ClassFile.FieldType.int), [], 4)
theorem ok_Mod_by : zMok m_Mod_by := ⟨by decide +kernel, zW_of 1894 (by decide +kernel) (by decide +kernel), zW_of 134 (by decide +kernel) (by decide +kernel), by decide, by decide +kernel, by decide +kernel⟩
set_option maxRecDepth 20000 in
theorem k_Mod_by_j26 {l : Launch} {X : zX} (hl : l.stackTraces = false) {h : zH} : zGl l m_Mod_by X 0 0 (f_Mod_by_j26 h) (26, [some (zr (some (11, 333))), none, none, none, none, none], [], h) (fun x => .inr ((fun a => (.inl (some (zi a.1)), a.2) : Int32 × zH → zF) x)) := by
  unfold f_Mod_by_j26
  refine zG_run t_Mod [(.aload_n 0, 0, 0), (.iconst 1, 0, 0)] (28, [some (zr (some (11, 333))), none, none, none, none, none], [zi 1, zr (some (11, 333))], h) (by decide +kernel) rfl ?_
  refine zG_callV (idx := 288) (R := (fun a => (some (zi a.1), a.2))) (as := [zi 1]) (rest := []) (n := 1) (fun a ha => c_Mod_fail hl ha) (by decide +kernel) ⟨ok_Mod_fail, by decide, by decide +kernel⟩ rfl w_378 w_379 w_380 (by decide) rfl rfl rfl (Nat.le_of_ble_eq_true rfl) fun x3 => ?_
  exact zG_ret (r := some (zi x3.1)) rfl (zrd_i rfl (by decide +kernel))
set_option maxRecDepth 20000 in
theorem k_Mod_by_b64 {l : Launch} {X : zX} (hl : l.stackTraces = false) {h : zH} {v2 : Int32} {v3 : Int32} {v4 : Int32} {v5 : Int32} : zGl l m_Mod_by X 0 0 (f_Mod_by_b64 h v2 v3 v4 v5) (64, [some (zr (some (11, 333))), none, some (zi v2), some (zi v3), some (zi v4), some (zi v5)], [], h) (Sum.elim (fun s : Int32 × Int32 × zH => .inl (64, [some (zr (some (11, 333))), none, some (zi v2), some (zi v3), some (zi s.1), some (zi s.2.1)], [], s.2.2)) (fun y : zH => .inl (98, [some (zr (some (11, 333))), none, some (zi v2), some (zi v3), none, none], [], y))) := by
  unfold f_Mod_by_b64
  refine zG_run t_Mod [(.iload 5, 0, 0), (.aload_n 0, 0, 0), (.getfield 40, 11, 3), (.iconst 0, 0, 0)] (71, [some (zr (some (11, 333))), none, some (zi v2), some (zi v3), some (zi v4), some (zi v5)], [zi 0, zr (some (62, 336)), zi v5], h) (by decide +kernel) rfl ?_
  refine zG_aldc (v := zi (h.1 336 0)) rfl (by decide +kernel) (by decide +kernel) rfl ?_
  refine zG_icmp (op := .ge) (off := 26) (tgt := 98) (by decide +kernel) rfl Iff.rfl (fun c8 => ?_) (fun c8 => ?_)
  · exact zG_end (L' := [some (zr (some (11, 333))), none, some (zi v2), some (zi v3), none, none]) rfl (And.intro rfl (And.intro rfl (And.intro rfl trivial)))
  · refine zG_run t_Mod [(.aload_n 0, 0, 0), (.getfield 87, 11, 27), (.iload 5, 0, 0), (.iload 4, 0, 0), (.iconst 3, 0, 0)] (84, [some (zr (some (11, 333))), none, some (zi v2), some (zi v3), some (zi v4), some (zi v5)], [zi 3, zi v4, zi v5, zr (some (76, 350))], h) (by decide +kernel) rfl ?_
    refine zG_iremc (by decide +kernel) (by decide) ?_
    refine zG_guard fun hb7 => ?_
    refine zG_bind (fun y => (86, [some (zr (some (11, 333))), none, some (zi v2), some (zi v3), some (zi v4), some (zi v5)], [], y)) (zG_astc (h' := zsI h 350 v5.toNatClampNeg (zrem v4 3)) rfl (by decide +kernel) hb7 rfl (zG_end (L' := [some (zr (some (11, 333))), none, some (zi v2), some (zi v3), some (zi v4), some (zi v5)]) rfl (And.intro rfl (And.intro rfl (And.intro rfl (And.intro rfl (And.intro rfl trivial))))))) fun h6 => ?_
    refine zG_run t_Mod [(.iload 4, 0, 0), (.iconst 3, 0, 0)] (89, [some (zr (some (11, 333))), none, some (zi v2), some (zi v3), some (zi v4), some (zi v5)], [zi 3, zi v4], h6) (by decide +kernel) rfl ?_
    refine zG_idivc (by decide +kernel) (by decide) ?_
    refine zG_run t_Mod [(.istore 4, 0, 0), (.iinc 5 1, 0, 0), (.goto (-31), 0, 0)] (64, [some (zr (some (11, 333))), none, some (zi v2), some (zi v3), some (zi (v4 / 3)), some (zi (v5 + 1))], [], h6) (by decide +kernel) rfl ?_
    exact zG_end (L' := [some (zr (some (11, 333))), none, some (zi v2), some (zi v3), some (zi (v4 / 3)), some (zi (v5 + 1))]) rfl (And.intro rfl (And.intro rfl (And.intro rfl (And.intro rfl (And.intro rfl trivial)))))
set_option maxRecDepth 20000 in
theorem k_Mod_by_j32 {l : Launch} {X : zX} (hl : l.stackTraces = false) {h : zH} {v1 : Int32} {v2 : Int32} {v3 : Int32} : zGl l m_Mod_by X 0 0 (f_Mod_by_j32 h v1 v2 v3) (32, [some (zr (some (11, 333))), some (zi v1), some (zi v2), some (zi v3), none, none], [], h) (fun x => .inr ((fun a => (.inl (some (zi a.1)), a.2) : Int32 × zH → zF) x)) := by
  unfold f_Mod_by_j32
  refine zG_run t_Mod [(.iload_n 1, 0, 0), (.iconst 0, 0, 0), (.iconst 3, 0, 0), (.aload_n 0, 0, 0), (.getfield 40, 11, 3), (.iconst 0, 0, 0)] (40, [some (zr (some (11, 333))), some (zi v1), some (zi v2), some (zi v3), none, none], [zi 0, zr (some (62, 336)), zi 3, zi 0, zi v1], h) (by decide +kernel) rfl ?_
  refine zG_aldc (v := zi (h.1 336 0)) rfl (by decide +kernel) (by decide +kernel) rfl ?_
  refine zG_callS (idx := 338) (R := (fun a => (some (zi a), h))) (as := [zi 3, zi (h.1 336 0)]) (rest := [zi 0, zi v1]) (n := 2) (fun a ha => c_Mod_powerOf hl ha) (by decide +kernel) ⟨ok_Mod_powerOf, by decide, by decide +kernel⟩ rfl w_479 w_480 rfl rfl (Nat.le_of_ble_eq_true rfl) fun x4 => ?_
  refine zG_run t_Mod [(.iconst 1, 0, 0), (.isub, 0, 0)] (46, [some (zr (some (11, 333))), some (zi v1), some (zi v2), some (zi v3), none, none], [zi (x4 - 1), zi 0, zi v1], h) (by decide +kernel) rfl ?_
  refine zG_callS (idx := 391) (R := (fun a => (some (zi a), h))) (as := [zi v1, zi 0, zi (x4 - 1)]) (rest := []) (n := 3) (fun a ha => c_Mod_isIn hl ha) (by decide +kernel) ⟨ok_Mod_isIn, by decide, by decide +kernel⟩ rfl w_526 w_527 rfl rfl (Nat.le_of_ble_eq_true rfl) fun x5 => ?_
  refine zG_if (op := .ne) (off := 9) (tgt := 58) (by decide +kernel) rfl Iff.rfl (fun c14 => ?_) (fun c14 => ?_)
  · refine zG_run t_Mod [(.iload_n 1, 0, 0), (.istore 4, 0, 0), (.iconst 0, 0, 0), (.istore 5, 0, 0)] (64, [some (zr (some (11, 333))), some (zi v1), some (zi v2), some (zi v3), some (zi v1), some (zi 0)], [], h) (by decide +kernel) rfl ?_
    refine zG_forget (L' := [some (zr (some (11, 333))), none, some (zi v2), some (zi v3), some (zi v1), some (zi 0)]) (And.intro rfl (And.intro rfl (And.intro rfl (And.intro rfl (And.intro rfl trivial))))) ?_
    refine zG_bind (fun y : zH => (98, [some (zr (some (11, 333))), none, some (zi v2), some (zi v3), none, none], [], y)) (zG_iter (fun s : Int32 × Int32 × zH => (64, [some (zr (some (11, 333))), none, some (zi v2), some (zi v3), some (zi s.1), some (zi s.2.1)], [], s.2.2)) fun s => k_Mod_by_b64 hl) (fun y10 => ?_)
    refine zG_run t_Mod [(.aload_n 0, 0, 0), (.iload_n 2, 0, 0)] (100, [some (zr (some (11, 333))), none, some (zi v2), some (zi v3), none, none], [zi v2, zr (some (11, 333))], y10) (by decide +kernel) rfl ?_
    refine zG_callV (idx := 317) (R := (fun a => (none, a))) (as := [zi v2]) (rest := []) (n := 1) (fun a ha => c_Mod_tellLines hl ha) (by decide +kernel) ⟨ok_Mod_tellLines, by decide, by decide +kernel⟩ rfl w_461 w_462 w_463 (by decide) rfl rfl rfl (Nat.le_of_ble_eq_true rfl) fun x11 => ?_
    refine zG_run t_Mod [(.aload_n 0, 0, 0), (.getfield 90, 11, 28), (.iload_n 3, 0, 0)] (108, [some (zr (some (11, 333))), none, some (zi v2), some (zi v3), none, none], [zi v3, zr (some (77, 351))], x11) (by decide +kernel) rfl ?_
    refine zG_ald (v := zi (x11.1 351 v3.toNatClampNeg)) (n := 22) rfl (by decide +kernel) rfl rfl fun hb12 => ?_
    exact zG_ret (r := some (zi (x11.1 351 v3.toNatClampNeg))) rfl (zrd_i rfl (by decide +kernel))
  · refine zG_run t_Mod [(.aload_n 0, 0, 0), (.iconst 2, 0, 0)] (54, [some (zr (some (11, 333))), some (zi v1), some (zi v2), some (zi v3), none, none], [zi 2, zr (some (11, 333))], h) (by decide +kernel) rfl ?_
    refine zG_callV (idx := 288) (R := (fun a => (some (zi a.1), a.2))) (as := [zi 2]) (rest := []) (n := 1) (fun a ha => c_Mod_fail hl ha) (by decide +kernel) ⟨ok_Mod_fail, by decide, by decide +kernel⟩ rfl w_378 w_379 w_380 (by decide) rfl rfl rfl (Nat.le_of_ble_eq_true rfl) fun x13 => ?_
    exact zG_ret (r := some (zi x13.1)) rfl (zrd_i rfl (by decide +kernel))
set_option maxRecDepth 20000 in
theorem k_Mod_by {l : Launch} {X : zX} (hl : l.stackTraces = false) {h : zH} {v1 : Int32} {v2 : Int32} {v3 : Int32} : zGl l m_Mod_by X 0 0 (f_Mod_by h v1 v2 v3) (0, [some (zr (some (11, 333))), some (zi v1), some (zi v2), some (zi v3), none, none], [], h) (fun x => .inr ((fun a => (.inl (some (zi a.1)), a.2) : Int32 × zH → zF) x)) := by
  unfold f_Mod_by
  refine zG_bind (fun y => (5, [some (zr (some (11, 333))), some (zi v1), some (zi v2), some (zi v3), none, none], [], y)) (zG_run t_Mod [(.aload_n 0, 0, 0), (.iconst 0, 0, 0), (.putfield 181, 11, 2)] (5, [some (zr (some (11, 333))), some (zi v1), some (zi v2), some (zi v3), none, none], [], zsI h 333 2 0) (by decide +kernel) rfl (zG_end (L' := [some (zr (some (11, 333))), some (zi v1), some (zi v2), some (zi v3), none, none]) rfl (And.intro rfl (And.intro rfl (And.intro rfl (And.intro rfl trivial)))))) fun h1 => ?_
  refine zG_run t_Mod [(.aload_n 0, 0, 0), (.iload_n 3, 0, 0)] (7, [some (zr (some (11, 333))), some (zi v1), some (zi v2), some (zi v3), none, none], [zi v3, zr (some (11, 333))], h1) (by decide +kernel) rfl ?_
  refine zG_callV (idx := 395) (R := (fun a => (some (zi a), h1))) (as := [zi v3]) (rest := []) (n := 1) (fun a ha => c_Mod_isLine hl ha) (by decide +kernel) ⟨ok_Mod_isLine, by decide, by decide +kernel⟩ rfl w_528 w_529 w_530 (by decide) rfl rfl rfl (Nat.le_of_ble_eq_true rfl) fun x2 => ?_
  refine zG_if (op := .eq) (off := 16) (tgt := 26) (by decide +kernel) rfl Iff.rfl (fun c18 => ?_) (fun c18 => ?_)
  · exact zG_forget (L' := [some (zr (some (11, 333))), none, none, none, none, none]) (And.intro rfl trivial) (k_Mod_by_j26 hl)
  · refine zG_run t_Mod [(.iload_n 2, 0, 0), (.iconst (-1), 0, 0)] (15, [some (zr (some (11, 333))), some (zi v1), some (zi v2), some (zi v3), none, none], [zi (-1), zi v2], h1) (by decide +kernel) rfl ?_
    refine zG_icmp (op := .eq) (off := 17) (tgt := 32) (by decide +kernel) rfl Iff.rfl (fun c17 => ?_) (fun c17 => ?_)
    · exact zG_forget (L' := [some (zr (some (11, 333))), some (zi v1), some (zi v2), some (zi v3), none, none]) (And.intro rfl (And.intro rfl (And.intro rfl (And.intro rfl trivial)))) (k_Mod_by_j32 hl)
    · refine zG_run t_Mod [(.aload_n 0, 0, 0), (.iload_n 2, 0, 0)] (20, [some (zr (some (11, 333))), some (zi v1), some (zi v2), some (zi v3), none, none], [zi v2, zr (some (11, 333))], h1) (by decide +kernel) rfl ?_
      refine zG_callV (idx := 401) (R := (fun a => (some (zi a), h1))) (as := [zi v2]) (rest := []) (n := 1) (fun a ha => c_Mod_isFault hl ha) (by decide +kernel) ⟨ok_Mod_isFault, by decide, by decide +kernel⟩ rfl w_534 w_535 w_536 (by decide) rfl rfl rfl (Nat.le_of_ble_eq_true rfl) fun x15 => ?_
      refine zG_if (op := .ne) (off := 9) (tgt := 32) (by decide +kernel) rfl Iff.rfl (fun c16 => ?_) (fun c16 => ?_)
      · exact zG_forget (L' := [some (zr (some (11, 333))), some (zi v1), some (zi v2), some (zi v3), none, none]) (And.intro rfl (And.intro rfl (And.intro rfl (And.intro rfl trivial)))) (k_Mod_by_j32 hl)
      · exact zG_forget (L' := [some (zr (some (11, 333))), none, none, none, none, none]) (And.intro rfl trivial) (k_Mod_by_j26 hl)
theorem c_Mod_by {l : Launch} {X : zX} (hl : l.stackTraces = false) {h : zH} {v1 : Int32} {v2 : Int32} {v3 : Int32} {x : Int32 × zH} (hx : f_Mod_by h v1 v2 v3 = some x) : zCt l (true, 2) 2 m_Mod_by X 0 0 [zr (some (11, 333)), zi v1, zi v2, zi v3] h ((fun a => (.inl (some (zi a.1)), a.2) : Int32 × zH → zF) x) :=
  zG_ct (R := fun a => (.inl (some (zi a.1)), a.2)) (x := x) ok_Mod_by hl (Nat.le_of_ble_eq_true rfl) hx (k_Mod_by hl)
def m_Mod_costOf : zM := (({ cls := "ScanPackerModel", name := "costOf", desc := "(I)I" } : Jvm.MethodName), prog_13_method_59_code, 5, (Option.some Jvm.ClassFile.FieldType.int), [], 2)
theorem ok_Mod_costOf : zMok m_Mod_costOf := ⟨by decide +kernel, zW_of 1902 (by decide +kernel) (by decide +kernel), zW_of 134 (by decide +kernel) (by decide +kernel), by decide, by decide +kernel, by decide +kernel⟩
set_option maxRecDepth 20000 in
theorem k_Mod_costOf_j62 {l : Launch} {X : zX} (hl : l.stackTraces = false) {h : zH} {v1 : Int32} {v3 : Int32} {v4 : Int32} {t0 : Int32} {t1 : Int32} : zGl l m_Mod_costOf X 0 0 (f_Mod_costOf_j62 h v1 v3 v4 t0 t1) (62, [some (zr (some (11, 333))), some (zi v1), none, some (zi v3), some (zi v4)], [zi t0, zi t1], h) (Sum.elim (fun s : Int32 × Int32 => .inl (17, [some (zr (some (11, 333))), some (zi v1), some (zi s.1), some (zi v3), some (zi s.2)], [], h)) (fun y : Int32 => .inl (70, [some (zr (some (11, 333))), some (zi v1), some (zi y), some (zi v3), none], [], h))) := by
  unfold f_Mod_costOf_j62
  refine zG_run t_Mod [(.iadd, 0, 0), (.istore_n 2, 0, 0), (.iinc 4 1, 0, 0), (.goto (-50), 0, 0)] (17, [some (zr (some (11, 333))), some (zi v1), some (zi (t1 + t0)), some (zi v3), some (zi (v4 + 1))], [], h) (by decide +kernel) rfl ?_
  exact zG_end (L' := [some (zr (some (11, 333))), some (zi v1), some (zi (t1 + t0)), some (zi v3), some (zi (v4 + 1))]) rfl (And.intro rfl (And.intro rfl (And.intro rfl (And.intro rfl (And.intro rfl trivial)))))
set_option maxRecDepth 20000 in
theorem k_Mod_costOf_b17 {l : Launch} {X : zX} (hl : l.stackTraces = false) {h : zH} {v1 : Int32} {v2 : Int32} {v3 : Int32} {v4 : Int32} : zGl l m_Mod_costOf X 0 0 (f_Mod_costOf_b17 h v1 v2 v3 v4) (17, [some (zr (some (11, 333))), some (zi v1), some (zi v2), some (zi v3), some (zi v4)], [], h) (Sum.elim (fun s : Int32 × Int32 => .inl (17, [some (zr (some (11, 333))), some (zi v1), some (zi s.1), some (zi v3), some (zi s.2)], [], h)) (fun y : Int32 => .inl (70, [some (zr (some (11, 333))), some (zi v1), some (zi y), some (zi v3), none], [], h))) := by
  unfold f_Mod_costOf_b17
  refine zG_run t_Mod [(.iload 4, 0, 0), (.aload_n 0, 0, 0), (.getfield 62, 11, 10), (.iload_n 3, 0, 0)] (24, [some (zr (some (11, 333))), some (zi v1), some (zi v2), some (zi v3), some (zi v4)], [zi v3, zr (some (69, 343)), zi v4], h) (by decide +kernel) rfl ?_
  refine zG_ald (v := zi (h.1 343 v3.toNatClampNeg)) (n := 6) rfl (by decide +kernel) rfl rfl fun hb1 => ?_
  refine zG_icmp (op := .ge) (off := 45) (tgt := 70) (by decide +kernel) rfl Iff.rfl (fun c5 => ?_) (fun c5 => ?_)
  · exact zG_end (L' := [some (zr (some (11, 333))), some (zi v1), some (zi v2), some (zi v3), none]) rfl (And.intro rfl (And.intro rfl (And.intro rfl (And.intro rfl trivial))))
  · refine zG_run t_Mod [(.iload_n 2, 0, 0), (.iload_n 1, 0, 0), (.aload_n 0, 0, 0), (.iload_n 3, 0, 0), (.iload 4, 0, 0), (.iconst 1, 0, 0), (.isub, 0, 0)] (36, [some (zr (some (11, 333))), some (zi v1), some (zi v2), some (zi v3), some (zi v4)], [zi (v4 - 1), zi v3, zr (some (11, 333)), zi v1, zi v2], h) (by decide +kernel) rfl ?_
    refine zG_callV (idx := 358) (R := (fun a => (some (zi a), h))) (as := [zi v3, zi (v4 - 1)]) (rest := [zi v1, zi v2]) (n := 2) (fun a ha => c_Mod_cellAt hl ha) (by decide +kernel) ⟨ok_Mod_cellAt, by decide, by decide +kernel⟩ rfl w_517 w_518 w_519 (by decide) rfl rfl rfl (Nat.le_of_ble_eq_true rfl) fun x2 => ?_
    refine zG_run t_Mod [(.ishr, 0, 0), (.iconst 1, 0, 0), (.iand, 0, 0), (.iload_n 1, 0, 0), (.aload_n 0, 0, 0), (.iload_n 3, 0, 0), (.iload 4, 0, 0)] (47, [some (zr (some (11, 333))), some (zi v1), some (zi v2), some (zi v3), some (zi v4)], [zi v4, zi v3, zr (some (11, 333)), zi v1, zi ((zshr v1 x2) &&& 1), zi v2], h) (by decide +kernel) rfl ?_
    refine zG_callV (idx := 358) (R := (fun a => (some (zi a), h))) (as := [zi v3, zi v4]) (rest := [zi v1, zi ((zshr v1 x2) &&& 1), zi v2]) (n := 2) (fun a ha => c_Mod_cellAt hl ha) (by decide +kernel) ⟨ok_Mod_cellAt, by decide, by decide +kernel⟩ rfl w_517 w_518 w_519 (by decide) rfl rfl rfl (Nat.le_of_ble_eq_true rfl) fun x3 => ?_
    refine zG_run t_Mod [(.ishr, 0, 0), (.iconst 1, 0, 0), (.iand, 0, 0)] (53, [some (zr (some (11, 333))), some (zi v1), some (zi v2), some (zi v3), some (zi v4)], [zi ((zshr v1 x3) &&& 1), zi ((zshr v1 x2) &&& 1), zi v2], h) (by decide +kernel) rfl ?_
    refine zG_icmp (op := .eq) (off := 8) (tgt := 61) (by decide +kernel) rfl Iff.rfl (fun c4 => ?_) (fun c4 => ?_)
    · refine zG_run t_Mod [(.iconst 0, 0, 0)] (62, [some (zr (some (11, 333))), some (zi v1), some (zi v2), some (zi v3), some (zi v4)], [zi 0, zi v2], h) (by decide +kernel) rfl ?_
      exact zG_forget (L' := [some (zr (some (11, 333))), some (zi v1), none, some (zi v3), some (zi v4)]) (And.intro rfl (And.intro rfl (And.intro rfl (And.intro rfl trivial)))) (k_Mod_costOf_j62 hl)
    · refine zG_run t_Mod [(.iload 4, 0, 0), (.goto 4, 0, 0)] (62, [some (zr (some (11, 333))), some (zi v1), some (zi v2), some (zi v3), some (zi v4)], [zi v4, zi v2], h) (by decide +kernel) rfl ?_
      exact zG_forget (L' := [some (zr (some (11, 333))), some (zi v1), none, some (zi v3), some (zi v4)]) (And.intro rfl (And.intro rfl (And.intro rfl (And.intro rfl trivial)))) (k_Mod_costOf_j62 hl)
set_option maxRecDepth 20000 in
theorem k_Mod_costOf_b4 {l : Launch} {X : zX} (hl : l.stackTraces = false) {h : zH} {v1 : Int32} {v2 : Int32} {v3 : Int32} : zGl l m_Mod_costOf X 0 0 (f_Mod_costOf_b4 h v1 v2 v3) (4, [some (zr (some (11, 333))), some (zi v1), some (zi v2), some (zi v3), none], [], h) (Sum.elim (fun s : Int32 × Int32 => .inl (4, [some (zr (some (11, 333))), some (zi v1), some (zi s.1), some (zi s.2), none], [], h)) (fun y : Int32 => .inl (76, [none, none, some (zi y), none, none], [], h))) := by
  unfold f_Mod_costOf_b4
  refine zG_run t_Mod [(.iload_n 3, 0, 0), (.aload_n 0, 0, 0), (.getfield 40, 11, 3), (.iconst 2, 0, 0)] (10, [some (zr (some (11, 333))), some (zi v1), some (zi v2), some (zi v3), none], [zi 2, zr (some (62, 336)), zi v3], h) (by decide +kernel) rfl ?_
  refine zG_aldc (v := zi (h.1 336 2)) rfl (by decide +kernel) (by decide +kernel) rfl ?_
  refine zG_icmp (op := .ge) (off := 65) (tgt := 76) (by decide +kernel) rfl Iff.rfl (fun c8 => ?_) (fun c8 => ?_)
  · exact zG_end (L' := [none, none, some (zi v2), none, none]) rfl (And.intro rfl trivial)
  · refine zG_run t_Mod [(.iconst 1, 0, 0), (.istore 4, 0, 0)] (17, [some (zr (some (11, 333))), some (zi v1), some (zi v2), some (zi v3), some (zi 1)], [], h) (by decide +kernel) rfl ?_
    refine zG_forget (L' := [some (zr (some (11, 333))), some (zi v1), some (zi v2), some (zi v3), some (zi 1)]) (And.intro rfl (And.intro rfl (And.intro rfl (And.intro rfl (And.intro rfl trivial))))) ?_
    refine zG_bind (fun y : Int32 => (70, [some (zr (some (11, 333))), some (zi v1), some (zi y), some (zi v3), none], [], h)) (zG_iter (fun s : Int32 × Int32 => (17, [some (zr (some (11, 333))), some (zi v1), some (zi s.1), some (zi v3), some (zi s.2)], [], h)) fun s => k_Mod_costOf_b17 hl) (fun y7 => ?_)
    refine zG_run t_Mod [(.iinc 3 1, 0, 0), (.goto (-69), 0, 0)] (4, [some (zr (some (11, 333))), some (zi v1), some (zi y7), some (zi (v3 + 1)), none], [], h) (by decide +kernel) rfl ?_
    exact zG_end (L' := [some (zr (some (11, 333))), some (zi v1), some (zi y7), some (zi (v3 + 1)), none]) rfl (And.intro rfl (And.intro rfl (And.intro rfl (And.intro rfl trivial))))
set_option maxRecDepth 20000 in
theorem k_Mod_costOf {l : Launch} {X : zX} (hl : l.stackTraces = false) {h : zH} {v1 : Int32} : zGl l m_Mod_costOf X 0 0 (f_Mod_costOf h v1) (0, [some (zr (some (11, 333))), some (zi v1), none, none, none], [], h) (fun x => .inr ((fun a => (.inl (some (zi a)), h) : Int32 → zF) x)) := by
  unfold f_Mod_costOf
  refine zG_run t_Mod [(.iconst 0, 0, 0), (.istore_n 2, 0, 0), (.iconst 0, 0, 0), (.istore_n 3, 0, 0)] (4, [some (zr (some (11, 333))), some (zi v1), some (zi 0), some (zi 0), none], [], h) (by decide +kernel) rfl ?_
  refine zG_forget (L' := [some (zr (some (11, 333))), some (zi v1), some (zi 0), some (zi 0), none]) (And.intro rfl (And.intro rfl (And.intro rfl (And.intro rfl trivial)))) ?_
  refine zG_bind (fun y : Int32 => (76, [none, none, some (zi y), none, none], [], h)) (zG_iter (fun s : Int32 × Int32 => (4, [some (zr (some (11, 333))), some (zi v1), some (zi s.1), some (zi s.2), none], [], h)) fun s => k_Mod_costOf_b4 hl) (fun y10 => ?_)
  refine zG_run t_Mod [(.iload_n 2, 0, 0)] (77, [none, none, some (zi y10), none, none], [zi y10], h) (by decide +kernel) rfl ?_
  exact zG_ret (r := some (zi y10)) rfl (zrd_i rfl (by decide +kernel))
theorem c_Mod_costOf {l : Launch} {X : zX} (hl : l.stackTraces = false) {h : zH} {v1 : Int32} {x : Int32} (hx : f_Mod_costOf h v1 = some x) : zCt l (true, 2) 2 m_Mod_costOf X 0 0 [zr (some (11, 333)), zi v1] h ((fun a => (.inl (some (zi a)), h) : Int32 → zF) x) :=
  zG_ct (R := fun a => (.inl (some (zi a)), h)) (x := x) ok_Mod_costOf hl (Nat.le_of_ble_eq_true rfl) hx (k_Mod_costOf hl)
def m_Mod_program : zM := (({ cls := "ScanPackerModel", name := "program", desc := "(II)I" } : Jvm.MethodName), prog_13_method_71_code, 3, (Option.some Jvm.ClassFile.FieldType.int), [], 5)
theorem ok_Mod_program : zMok m_Mod_program := ⟨by decide +kernel, zW_of 1898 (by decide +kernel) (by decide +kernel), zW_of 134 (by decide +kernel) (by decide +kernel), by decide, by decide +kernel, by decide +kernel⟩
set_option maxRecDepth 20000 in
theorem k_Mod_program_j32 {l : Launch} {X : zX} (hl : l.stackTraces = false) {h : zH} : zGl l m_Mod_program X 0 0 (f_Mod_program_j32 h) (32, [some (zr (some (11, 333))), none, none], [], h) (fun x => .inr ((fun a => (.inl (some (zi a.1)), a.2) : Int32 × zH → zF) x)) := by
  unfold f_Mod_program_j32
  refine zG_run t_Mod [(.aload_n 0, 0, 0), (.iconst 1, 0, 0)] (34, [some (zr (some (11, 333))), none, none], [zi 1, zr (some (11, 333))], h) (by decide +kernel) rfl ?_
  refine zG_callV (idx := 288) (R := (fun a => (some (zi a.1), a.2))) (as := [zi 1]) (rest := []) (n := 1) (fun a ha => c_Mod_fail hl ha) (by decide +kernel) ⟨ok_Mod_fail, by decide, by decide +kernel⟩ rfl w_378 w_379 w_380 (by decide) rfl rfl rfl (Nat.le_of_ble_eq_true rfl) fun x4 => ?_
  exact zG_ret (r := some (zi x4.1)) rfl (zrd_i rfl (by decide +kernel))
set_option maxRecDepth 20000 in
theorem k_Mod_program {l : Launch} {X : zX} (hl : l.stackTraces = false) {h : zH} {v1 : Int32} {v2 : Int32} : zGl l m_Mod_program X 0 0 (f_Mod_program h v1 v2) (0, [some (zr (some (11, 333))), some (zi v1), some (zi v2)], [], h) (fun x => .inr ((fun a => (.inl (some (zi a.1)), a.2) : Int32 × zH → zF) x)) := by
  unfold f_Mod_program
  refine zG_bind (fun y => (5, [some (zr (some (11, 333))), some (zi v1), some (zi v2)], [], y)) (zG_run t_Mod [(.aload_n 0, 0, 0), (.iconst 0, 0, 0), (.putfield 181, 11, 2)] (5, [some (zr (some (11, 333))), some (zi v1), some (zi v2)], [], zsI h 333 2 0) (by decide +kernel) rfl (zG_end (L' := [some (zr (some (11, 333))), some (zi v1), some (zi v2)]) rfl (And.intro rfl (And.intro rfl (And.intro rfl trivial))))) fun h1 => ?_
  refine zG_run t_Mod [(.aload_n 0, 0, 0)] (6, [some (zr (some (11, 333))), some (zi v1), some (zi v2)], [zr (some (11, 333))], h1) (by decide +kernel) rfl ?_
  refine zG_callV (idx := 388) (R := (fun a => (none, a))) (as := []) (rest := []) (n := 0) (fun a ha => c_Mod_tellProgram hl ha) (by decide +kernel) ⟨ok_Mod_tellProgram, by decide, by decide +kernel⟩ rfl w_523 w_524 w_525 (by decide) rfl rfl rfl (Nat.le_of_ble_eq_true rfl) fun x2 => ?_
  refine zG_run t_Mod [(.iload_n 1, 0, 0), (.iconst 0, 0, 0), (.aload_n 0, 0, 0), (.getfield 361, 11, 40), (.iconst 1, 0, 0), (.isub, 0, 0)] (17, [some (zr (some (11, 333))), some (zi v1), some (zi v2)], [zi ((x2.1 333 40) - 1), zi 0, zi v1], x2) (by decide +kernel) rfl ?_
  refine zG_callS (idx := 391) (R := (fun a => (some (zi a), x2))) (as := [zi v1, zi 0, zi ((x2.1 333 40) - 1)]) (rest := []) (n := 3) (fun a ha => c_Mod_isIn hl ha) (by decide +kernel) ⟨ok_Mod_isIn, by decide, by decide +kernel⟩ rfl w_526 w_527 rfl rfl (Nat.le_of_ble_eq_true rfl) fun x3 => ?_
  refine zG_if (op := .eq) (off := 12) (tgt := 32) (by decide +kernel) rfl Iff.rfl (fun c15 => ?_) (fun c15 => ?_)
  · exact zG_forget (L' := [some (zr (some (11, 333))), none, none]) (And.intro rfl trivial) (k_Mod_program_j32 hl)
  · refine zG_run t_Mod [(.iload_n 2, 0, 0), (.iconst 0, 0, 0), (.iconst 3, 0, 0)] (26, [some (zr (some (11, 333))), some (zi v1), some (zi v2)], [zi 3, zi 0, zi v2], x2) (by decide +kernel) rfl ?_
    refine zG_callS (idx := 391) (R := (fun a => (some (zi a), x2))) (as := [zi v2, zi 0, zi 3]) (rest := []) (n := 3) (fun a ha => c_Mod_isIn hl ha) (by decide +kernel) ⟨ok_Mod_isIn, by decide, by decide +kernel⟩ rfl w_526 w_527 rfl rfl (Nat.le_of_ble_eq_true rfl) fun x5 => ?_
    refine zG_if (op := .ne) (off := 9) (tgt := 38) (by decide +kernel) rfl Iff.rfl (fun c14 => ?_) (fun c14 => ?_)
    · refine zG_run t_Mod [(.iload_n 2, 0, 0)] (39, [some (zr (some (11, 333))), some (zi v1), some (zi v2)], [zi v2], x2) (by decide +kernel) rfl ?_
      refine zG_if (op := .ne) (off := 12) (tgt := 51) (by decide +kernel) rfl Iff.rfl (fun c13 => ?_) (fun c13 => ?_)
      · refine zG_run t_Mod [(.iload_n 2, 0, 0), (.iconst 1, 0, 0)] (53, [some (zr (some (11, 333))), some (zi v1), some (zi v2)], [zi 1, zi v2], x2) (by decide +kernel) rfl ?_
        refine zG_icmp (op := .ne) (off := 12) (tgt := 65) (by decide +kernel) rfl Iff.rfl (fun c11 => ?_) (fun c11 => ?_)
        · refine zG_run t_Mod [(.iload_n 2, 0, 0), (.iconst 2, 0, 0)] (67, [some (zr (some (11, 333))), some (zi v1), some (zi v2)], [zi 2, zi v2], x2) (by decide +kernel) rfl ?_
          refine zG_icmp (op := .ne) (off := 16) (tgt := 83) (by decide +kernel) rfl Iff.rfl (fun c9 => ?_) (fun c9 => ?_)
          · refine zG_run t_Mod [(.aload_n 0, 0, 0), (.getfield 121, 11, 38), (.iload_n 1, 0, 0)] (88, [some (zr (some (11, 333))), some (zi v1), some (zi v2)], [zi v1, zr (some (87, 361))], x2) (by decide +kernel) rfl ?_
            refine zG_ald (v := zi (x2.1 361 v1.toNatClampNeg)) (n := 44) rfl (by decide +kernel) rfl rfl fun hb6 => ?_
            exact zG_ret (r := some (zi (x2.1 361 v1.toNatClampNeg))) rfl (zrd_i rfl (by decide +kernel))
          · refine zG_run t_Mod [(.aload_n 0, 0, 0), (.aload_n 0, 0, 0), (.getfield 115, 11, 36), (.iload_n 1, 0, 0)] (76, [some (zr (some (11, 333))), some (zi v1), some (zi v2)], [zi v1, zr (some (85, 359)), zr (some (11, 333))], x2) (by decide +kernel) rfl ?_
            refine zG_ald (v := zi (x2.1 359 v1.toNatClampNeg)) (n := 44) rfl (by decide +kernel) rfl rfl fun hb7 => ?_
            refine zG_callV (idx := 407) (R := (fun a => (some (zi a), x2))) (as := [zi (x2.1 359 v1.toNatClampNeg)]) (rest := []) (n := 1) (fun a ha => c_Mod_costOf hl ha) (by decide +kernel) ⟨ok_Mod_costOf, by decide, by decide +kernel⟩ rfl w_543 w_544 w_545 (by decide) rfl rfl rfl (Nat.le_of_ble_eq_true rfl) fun x8 => ?_
            refine zG_run t_Mod [(.goto 9, 0, 0)] (89, [some (zr (some (11, 333))), some (zi v1), some (zi v2)], [zi x8], x2) (by decide +kernel) rfl ?_
            exact zG_ret (r := some (zi x8)) rfl (zrd_i rfl (by decide +kernel))
        · refine zG_run t_Mod [(.aload_n 0, 0, 0), (.getfield 118, 11, 37), (.iload_n 1, 0, 0)] (61, [some (zr (some (11, 333))), some (zi v1), some (zi v2)], [zi v1, zr (some (86, 360))], x2) (by decide +kernel) rfl ?_
          refine zG_ald (v := zi (x2.1 360 v1.toNatClampNeg)) (n := 44) rfl (by decide +kernel) rfl rfl fun hb10 => ?_
          refine zG_run t_Mod [(.goto 27, 0, 0)] (89, [some (zr (some (11, 333))), some (zi v1), some (zi v2)], [zi (x2.1 360 v1.toNatClampNeg)], x2) (by decide +kernel) rfl ?_
          exact zG_ret (r := some (zi (x2.1 360 v1.toNatClampNeg))) rfl (zrd_i rfl (by decide +kernel))
      · refine zG_run t_Mod [(.aload_n 0, 0, 0), (.getfield 115, 11, 36), (.iload_n 1, 0, 0)] (47, [some (zr (some (11, 333))), some (zi v1), some (zi v2)], [zi v1, zr (some (85, 359))], x2) (by decide +kernel) rfl ?_
        refine zG_ald (v := zi (x2.1 359 v1.toNatClampNeg)) (n := 44) rfl (by decide +kernel) rfl rfl fun hb12 => ?_
        refine zG_run t_Mod [(.goto 41, 0, 0)] (89, [some (zr (some (11, 333))), some (zi v1), some (zi v2)], [zi (x2.1 359 v1.toNatClampNeg)], x2) (by decide +kernel) rfl ?_
        exact zG_ret (r := some (zi (x2.1 359 v1.toNatClampNeg))) rfl (zrd_i rfl (by decide +kernel))
    · exact zG_forget (L' := [some (zr (some (11, 333))), none, none]) (And.intro rfl trivial) (k_Mod_program_j32 hl)
theorem c_Mod_program {l : Launch} {X : zX} (hl : l.stackTraces = false) {h : zH} {v1 : Int32} {v2 : Int32} {x : Int32 × zH} (hx : f_Mod_program h v1 v2 = some x) : zCt l (true, 2) 2 m_Mod_program X 0 0 [zr (some (11, 333)), zi v1, zi v2] h ((fun a => (.inl (some (zi a.1)), a.2) : Int32 × zH → zF) x) :=
  zG_ct (R := fun a => (.inl (some (zi a.1)), a.2)) (x := x) ok_Mod_program hl (Nat.le_of_ble_eq_true rfl) hx (k_Mod_program hl)
def m_Mod_tellApart : zM := (({ cls := "ScanPackerModel", name := "tellApart", desc := "()V" } : Jvm.MethodName), prog_13_method_72_code, 4, (Option.none : Option Jvm.ClassFile.FieldType), [], 1)
theorem ok_Mod_tellApart : zMok m_Mod_tellApart := ⟨by decide +kernel, zW_of 1910 (by decide +kernel) (by decide +kernel), zW_of 134 (by decide +kernel) (by decide +kernel), by decide, by decide +kernel, by decide +kernel⟩
set_option maxRecDepth 20000 in
theorem k_Mod_tellApart_j78 {l : Launch} {X : zX} (hl : l.stackTraces = false) {h : zH} {v1 : Int32} {v2 : Int32} {v3 : Int32} {t0 : Int32} {t1 : Int32} {t2 : Int32} : zGl l m_Mod_tellApart X 0 0 (f_Mod_tellApart_j78 h v1 v2 v3 t0 t1 t2) (78, [some (zr (some (11, 333))), some (zi v1), some (zi v2), some (zi v3)], [zi t0, zi t1, zi t2, zr (some (89, 363))], h) (Sum.elim (fun s : Int32 × zH => .inl (30, [some (zr (some (11, 333))), some (zi v1), some (zi v2), some (zi s.1)], [], s.2)) (fun y : zH => .inl (86, [some (zr (some (11, 333))), some (zi v1), some (zi v2), none], [], y))) := by
  unfold f_Mod_tellApart_j78
  refine zG_run t_Mod [(.iadd, 0, 0)] (79, [some (zr (some (11, 333))), some (zi v1), some (zi v2), some (zi v3)], [zi (t1 + t0), zi t2, zr (some (89, 363))], h) (by decide +kernel) rfl ?_
  refine zG_guard fun hb7 => ?_
  refine zG_bind (fun y => (80, [some (zr (some (11, 333))), some (zi v1), some (zi v2), some (zi v3)], [], y)) (zG_astc (h' := zsI h 363 t2.toNatClampNeg (t1 + t0)) rfl (by decide +kernel) hb7 rfl (zG_end (L' := [some (zr (some (11, 333))), some (zi v1), some (zi v2), some (zi v3)]) rfl (And.intro rfl (And.intro rfl (And.intro rfl (And.intro rfl trivial)))))) fun h6 => ?_
  refine zG_run t_Mod [(.iinc 3 1, 0, 0), (.goto (-53), 0, 0)] (30, [some (zr (some (11, 333))), some (zi v1), some (zi v2), some (zi (v3 + 1))], [], h6) (by decide +kernel) rfl ?_
  exact zG_end (L' := [some (zr (some (11, 333))), some (zi v1), some (zi v2), some (zi (v3 + 1))]) rfl (And.intro rfl (And.intro rfl (And.intro rfl (And.intro rfl trivial))))
set_option maxRecDepth 20000 in
theorem k_Mod_tellApart_b30 {l : Launch} {X : zX} (hl : l.stackTraces = false) {h : zH} {v1 : Int32} {v2 : Int32} {v3 : Int32} : zGl l m_Mod_tellApart X 0 0 (f_Mod_tellApart_b30 h v1 v2 v3) (30, [some (zr (some (11, 333))), some (zi v1), some (zi v2), some (zi v3)], [], h) (Sum.elim (fun s : Int32 × zH => .inl (30, [some (zr (some (11, 333))), some (zi v1), some (zi v2), some (zi s.1)], [], s.2)) (fun y : zH => .inl (86, [some (zr (some (11, 333))), some (zi v1), some (zi v2), none], [], y))) := by
  unfold f_Mod_tellApart_b30
  refine zG_run t_Mod [(.iload_n 3, 0, 0), (.aload_n 0, 0, 0), (.getfield 361, 11, 40)] (35, [some (zr (some (11, 333))), some (zi v1), some (zi v2), some (zi v3)], [zi (h.1 333 40), zi v3], h) (by decide +kernel) rfl ?_
  refine zG_icmp (op := .ge) (off := 51) (tgt := 86) (by decide +kernel) rfl Iff.rfl (fun c9 => ?_) (fun c9 => ?_)
  · exact zG_end (L' := [some (zr (some (11, 333))), some (zi v1), some (zi v2), none]) rfl (And.intro rfl (And.intro rfl (And.intro rfl trivial)))
  · refine zG_run t_Mod [(.aload_n 0, 0, 0), (.getfield 127, 11, 41), (.bipush 6, 0, 0), (.iload_n 1, 0, 0), (.imul, 0, 0), (.iload_n 2, 0, 0), (.iadd, 0, 0), (.dup2, 0, 0)] (49, [some (zr (some (11, 333))), some (zi v1), some (zi v2), some (zi v3)], [zi ((6 * v1) + v2), zr (some (89, 363)), zi ((6 * v1) + v2), zr (some (89, 363))], h) (by decide +kernel) rfl ?_
    refine zG_ald (v := zi (h.1 363 ((6 * v1) + v2).toNatClampNeg)) (n := 36) rfl (by decide +kernel) rfl rfl fun hb3 => ?_
    refine zG_run t_Mod [(.aload_n 0, 0, 0), (.getfield 115, 11, 36), (.iload_n 3, 0, 0)] (55, [some (zr (some (11, 333))), some (zi v1), some (zi v2), some (zi v3)], [zi v3, zr (some (85, 359)), zi (h.1 363 ((6 * v1) + v2).toNatClampNeg), zi ((6 * v1) + v2), zr (some (89, 363))], h) (by decide +kernel) rfl ?_
    refine zG_ald (v := zi (h.1 359 v3.toNatClampNeg)) (n := 44) rfl (by decide +kernel) rfl rfl fun hb4 => ?_
    refine zG_run t_Mod [(.iload_n 1, 0, 0), (.ishr, 0, 0), (.iconst 1, 0, 0), (.iand, 0, 0), (.aload_n 0, 0, 0), (.getfield 115, 11, 36), (.iload_n 3, 0, 0)] (65, [some (zr (some (11, 333))), some (zi v1), some (zi v2), some (zi v3)], [zi v3, zr (some (85, 359)), zi ((zshr (h.1 359 v3.toNatClampNeg) v1) &&& 1), zi (h.1 363 ((6 * v1) + v2).toNatClampNeg), zi ((6 * v1) + v2), zr (some (89, 363))], h) (by decide +kernel) rfl ?_
    refine zG_ald (v := zi (h.1 359 v3.toNatClampNeg)) (n := 44) rfl (by decide +kernel) rfl rfl fun hb5 => ?_
    refine zG_run t_Mod [(.iload_n 2, 0, 0), (.ishr, 0, 0), (.iconst 1, 0, 0), (.iand, 0, 0)] (70, [some (zr (some (11, 333))), some (zi v1), some (zi v2), some (zi v3)], [zi ((zshr (h.1 359 v3.toNatClampNeg) v2) &&& 1), zi ((zshr (h.1 359 v3.toNatClampNeg) v1) &&& 1), zi (h.1 363 ((6 * v1) + v2).toNatClampNeg), zi ((6 * v1) + v2), zr (some (89, 363))], h) (by decide +kernel) rfl ?_
    refine zG_icmp (op := .eq) (off := 7) (tgt := 77) (by decide +kernel) rfl Iff.rfl (fun c8 => ?_) (fun c8 => ?_)
    · refine zG_run t_Mod [(.iconst 0, 0, 0)] (78, [some (zr (some (11, 333))), some (zi v1), some (zi v2), some (zi v3)], [zi 0, zi (h.1 363 ((6 * v1) + v2).toNatClampNeg), zi ((6 * v1) + v2), zr (some (89, 363))], h) (by decide +kernel) rfl ?_
      exact zG_forget (L' := [some (zr (some (11, 333))), some (zi v1), some (zi v2), some (zi v3)]) (And.intro rfl (And.intro rfl (And.intro rfl (And.intro rfl trivial)))) (k_Mod_tellApart_j78 hl)
    · refine zG_run t_Mod [(.iconst 1, 0, 0), (.goto 4, 0, 0)] (78, [some (zr (some (11, 333))), some (zi v1), some (zi v2), some (zi v3)], [zi 1, zi (h.1 363 ((6 * v1) + v2).toNatClampNeg), zi ((6 * v1) + v2), zr (some (89, 363))], h) (by decide +kernel) rfl ?_
      exact zG_forget (L' := [some (zr (some (11, 333))), some (zi v1), some (zi v2), some (zi v3)]) (And.intro rfl (And.intro rfl (And.intro rfl (And.intro rfl trivial)))) (k_Mod_tellApart_j78 hl)
set_option maxRecDepth 20000 in
theorem k_Mod_tellApart_b10 {l : Launch} {X : zX} (hl : l.stackTraces = false) {h : zH} {v1 : Int32} {v2 : Int32} : zGl l m_Mod_tellApart X 0 0 (f_Mod_tellApart_b10 h v1 v2) (10, [some (zr (some (11, 333))), some (zi v1), some (zi v2), none], [], h) (Sum.elim (fun s : Int32 × zH => .inl (10, [some (zr (some (11, 333))), some (zi v1), some (zi s.1), none], [], s.2)) (fun y : zH => .inl (92, [some (zr (some (11, 333))), some (zi v1), none, none], [], y))) := by
  unfold f_Mod_tellApart_b10
  refine zG_run t_Mod [(.iload_n 2, 0, 0), (.bipush 6, 0, 0)] (13, [some (zr (some (11, 333))), some (zi v1), some (zi v2), none], [zi 6, zi v2], h) (by decide +kernel) rfl ?_
  refine zG_icmp (op := .ge) (off := 79) (tgt := 92) (by decide +kernel) rfl Iff.rfl (fun c12 => ?_) (fun c12 => ?_)
  · exact zG_end (L' := [some (zr (some (11, 333))), some (zi v1), none, none]) rfl (And.intro rfl (And.intro rfl trivial))
  · refine zG_run t_Mod [(.aload_n 0, 0, 0), (.getfield 127, 11, 41), (.bipush 6, 0, 0), (.iload_n 1, 0, 0), (.imul, 0, 0), (.iload_n 2, 0, 0), (.iadd, 0, 0), (.iconst 0, 0, 0)] (27, [some (zr (some (11, 333))), some (zi v1), some (zi v2), none], [zi 0, zi ((6 * v1) + v2), zr (some (89, 363))], h) (by decide +kernel) rfl ?_
    refine zG_guard fun hb2 => ?_
    refine zG_bind (fun y => (28, [some (zr (some (11, 333))), some (zi v1), some (zi v2), none], [], y)) (zG_astc (h' := zsI h 363 ((6 * v1) + v2).toNatClampNeg 0) rfl (by decide +kernel) hb2 rfl (zG_end (L' := [some (zr (some (11, 333))), some (zi v1), some (zi v2), none]) rfl (And.intro rfl (And.intro rfl (And.intro rfl trivial))))) fun h1 => ?_
    refine zG_run t_Mod [(.iconst 0, 0, 0), (.istore_n 3, 0, 0)] (30, [some (zr (some (11, 333))), some (zi v1), some (zi v2), some (zi 0)], [], h1) (by decide +kernel) rfl ?_
    refine zG_forget (L' := [some (zr (some (11, 333))), some (zi v1), some (zi v2), some (zi 0)]) (And.intro rfl (And.intro rfl (And.intro rfl (And.intro rfl trivial)))) ?_
    refine zG_bind (fun y : zH => (86, [some (zr (some (11, 333))), some (zi v1), some (zi v2), none], [], y)) (zG_iter (fun s : Int32 × zH => (30, [some (zr (some (11, 333))), some (zi v1), some (zi v2), some (zi s.1)], [], s.2)) fun s => k_Mod_tellApart_b30 hl) (fun y11 => ?_)
    refine zG_run t_Mod [(.iinc 2 1, 0, 0), (.goto (-79), 0, 0)] (10, [some (zr (some (11, 333))), some (zi v1), some (zi (v2 + 1)), none], [], y11) (by decide +kernel) rfl ?_
    exact zG_end (L' := [some (zr (some (11, 333))), some (zi v1), some (zi (v2 + 1)), none]) rfl (And.intro rfl (And.intro rfl (And.intro rfl trivial)))
set_option maxRecDepth 20000 in
theorem k_Mod_tellApart_b2 {l : Launch} {X : zX} (hl : l.stackTraces = false) {h : zH} {v1 : Int32} : zGl l m_Mod_tellApart X 0 0 (f_Mod_tellApart_b2 h v1) (2, [some (zr (some (11, 333))), some (zi v1), none, none], [], h) (Sum.elim (fun s : Int32 × zH => .inl (2, [some (zr (some (11, 333))), some (zi s.1), none, none], [], s.2)) (fun y : zH => .inl (98, [none, none, none, none], [], y))) := by
  unfold f_Mod_tellApart_b2
  refine zG_run t_Mod [(.iload_n 1, 0, 0), (.bipush 6, 0, 0)] (5, [some (zr (some (11, 333))), some (zi v1), none, none], [zi 6, zi v1], h) (by decide +kernel) rfl ?_
  refine zG_icmp (op := .ge) (off := 93) (tgt := 98) (by decide +kernel) rfl Iff.rfl (fun c15 => ?_) (fun c15 => ?_)
  · exact zG_end (L' := [none, none, none, none]) rfl (trivial)
  · refine zG_run t_Mod [(.iconst 0, 0, 0), (.istore_n 2, 0, 0)] (10, [some (zr (some (11, 333))), some (zi v1), some (zi 0), none], [], h) (by decide +kernel) rfl ?_
    refine zG_forget (L' := [some (zr (some (11, 333))), some (zi v1), some (zi 0), none]) (And.intro rfl (And.intro rfl (And.intro rfl trivial))) ?_
    refine zG_bind (fun y : zH => (92, [some (zr (some (11, 333))), some (zi v1), none, none], [], y)) (zG_iter (fun s : Int32 × zH => (10, [some (zr (some (11, 333))), some (zi v1), some (zi s.1), none], [], s.2)) fun s => k_Mod_tellApart_b10 hl) (fun y14 => ?_)
    refine zG_run t_Mod [(.iinc 1 1, 0, 0), (.goto (-93), 0, 0)] (2, [some (zr (some (11, 333))), some (zi (v1 + 1)), none, none], [], y14) (by decide +kernel) rfl ?_
    exact zG_end (L' := [some (zr (some (11, 333))), some (zi (v1 + 1)), none, none]) rfl (And.intro rfl (And.intro rfl trivial))
set_option maxRecDepth 20000 in
theorem k_Mod_tellApart {l : Launch} {X : zX} (hl : l.stackTraces = false) {h : zH} : zGl l m_Mod_tellApart X 0 0 (f_Mod_tellApart h) (0, [some (zr (some (11, 333))), none, none, none], [], h) (fun x => .inr ((fun a => (.inl none, a) : zH → zF) x)) := by
  unfold f_Mod_tellApart
  refine zG_run t_Mod [(.iconst 0, 0, 0), (.istore_n 1, 0, 0)] (2, [some (zr (some (11, 333))), some (zi 0), none, none], [], h) (by decide +kernel) rfl ?_
  refine zG_forget (L' := [some (zr (some (11, 333))), some (zi 0), none, none]) (And.intro rfl (And.intro rfl trivial)) ?_
  refine zG_bind (fun y : zH => (98, [none, none, none, none], [], y)) (zG_iter (fun s : Int32 × zH => (2, [some (zr (some (11, 333))), some (zi s.1), none, none], [], s.2)) fun s => k_Mod_tellApart_b2 hl) (fun y17 => ?_)
  exact zG_ret (r := none) rfl (zrd_v rfl (by decide +kernel))
theorem c_Mod_tellApart {l : Launch} {X : zX} (hl : l.stackTraces = false) {h : zH} {x : zH} (hx : f_Mod_tellApart h = some x) : zCt l (true, 2) 2 m_Mod_tellApart X 0 0 [zr (some (11, 333))] h ((fun a => (.inl none, a) : zH → zF) x) :=
  zG_ct (R := fun a => (.inl none, a)) (x := x) ok_Mod_tellApart hl (Nat.le_of_ble_eq_true rfl) hx (k_Mod_tellApart hl)
def m_Mod_orderCost : zM := (({ cls := "ScanPackerModel", name := "orderCost", desc := "(I)I" } : Jvm.MethodName), prog_13_method_73_code, 4, (Option.some Jvm.ClassFile.FieldType.int), [], 1)
theorem ok_Mod_orderCost : zMok m_Mod_orderCost := ⟨by decide +kernel, zW_of 1914 (by decide +kernel) (by decide +kernel), zW_of 134 (by decide +kernel) (by decide +kernel), by decide, by decide +kernel, by decide +kernel⟩
set_option maxRecDepth 20000 in
theorem k_Mod_orderCost_b4 {l : Launch} {X : zX} (hl : l.stackTraces = false) {h : zH} {v1 : Int32} {v2 : Int32} {v3 : Int32} : zGl l m_Mod_orderCost X 0 0 (f_Mod_orderCost_b4 h v1 v2 v3) (4, [some (zr (some (11, 333))), some (zi v1), some (zi v2), some (zi v3)], [], h) (Sum.elim (fun s : Int32 × Int32 => .inl (4, [some (zr (some (11, 333))), some (zi v1), some (zi s.1), some (zi s.2)], [], h)) (fun y : Int32 => .inl (43, [none, none, some (zi y), none], [], h))) := by
  unfold f_Mod_orderCost_b4
  refine zG_run t_Mod [(.iload_n 3, 0, 0), (.iload_n 1, 0, 0)] (6, [some (zr (some (11, 333))), some (zi v1), some (zi v2), some (zi v3)], [zi v1, zi v3], h) (by decide +kernel) rfl ?_
  refine zG_icmp (op := .ge) (off := 37) (tgt := 43) (by decide +kernel) rfl Iff.rfl (fun c4 => ?_) (fun c4 => ?_)
  · exact zG_end (L' := [none, none, some (zi v2), none]) rfl (And.intro rfl trivial)
  · refine zG_run t_Mod [(.iload_n 2, 0, 0), (.iload_n 3, 0, 0), (.aload_n 0, 0, 0), (.getfield 127, 11, 41), (.bipush 6, 0, 0), (.aload_n 0, 0, 0), (.getfield 130, 11, 42), (.iload_n 3, 0, 0), (.iconst 1, 0, 0), (.isub, 0, 0)] (24, [some (zr (some (11, 333))), some (zi v1), some (zi v2), some (zi v3)], [zi (v3 - 1), zr (some (90, 364)), zi 6, zr (some (89, 363)), zi v3, zi v2], h) (by decide +kernel) rfl ?_
    refine zG_ald (v := zi (h.1 364 (v3 - 1).toNatClampNeg)) (n := 6) rfl (by decide +kernel) rfl rfl fun hb1 => ?_
    refine zG_run t_Mod [(.imul, 0, 0), (.aload_n 0, 0, 0), (.getfield 130, 11, 42), (.iload_n 3, 0, 0)] (31, [some (zr (some (11, 333))), some (zi v1), some (zi v2), some (zi v3)], [zi v3, zr (some (90, 364)), zi (6 * (h.1 364 (v3 - 1).toNatClampNeg)), zr (some (89, 363)), zi v3, zi v2], h) (by decide +kernel) rfl ?_
    refine zG_ald (v := zi (h.1 364 v3.toNatClampNeg)) (n := 6) rfl (by decide +kernel) rfl rfl fun hb2 => ?_
    refine zG_run t_Mod [(.iadd, 0, 0)] (33, [some (zr (some (11, 333))), some (zi v1), some (zi v2), some (zi v3)], [zi ((6 * (h.1 364 (v3 - 1).toNatClampNeg)) + (h.1 364 v3.toNatClampNeg)), zr (some (89, 363)), zi v3, zi v2], h) (by decide +kernel) rfl ?_
    refine zG_ald (v := zi (h.1 363 ((6 * (h.1 364 (v3 - 1).toNatClampNeg)) + (h.1 364 v3.toNatClampNeg)).toNatClampNeg)) (n := 36) rfl (by decide +kernel) rfl rfl fun hb3 => ?_
    refine zG_run t_Mod [(.imul, 0, 0), (.iadd, 0, 0), (.istore_n 2, 0, 0), (.iinc 3 1, 0, 0), (.goto (-36), 0, 0)] (4, [some (zr (some (11, 333))), some (zi v1), some (zi (v2 + (v3 * (h.1 363 ((6 * (h.1 364 (v3 - 1).toNatClampNeg)) + (h.1 364 v3.toNatClampNeg)).toNatClampNeg)))), some (zi (v3 + 1))], [], h) (by decide +kernel) rfl ?_
    exact zG_end (L' := [some (zr (some (11, 333))), some (zi v1), some (zi (v2 + (v3 * (h.1 363 ((6 * (h.1 364 (v3 - 1).toNatClampNeg)) + (h.1 364 v3.toNatClampNeg)).toNatClampNeg)))), some (zi (v3 + 1))]) rfl (And.intro rfl (And.intro rfl (And.intro rfl (And.intro rfl trivial))))
set_option maxRecDepth 20000 in
theorem k_Mod_orderCost {l : Launch} {X : zX} (hl : l.stackTraces = false) {h : zH} {v1 : Int32} : zGl l m_Mod_orderCost X 0 0 (f_Mod_orderCost h v1) (0, [some (zr (some (11, 333))), some (zi v1), none, none], [], h) (fun x => .inr ((fun a => (.inl (some (zi a)), h) : Int32 → zF) x)) := by
  unfold f_Mod_orderCost
  refine zG_run t_Mod [(.iconst 0, 0, 0), (.istore_n 2, 0, 0), (.iconst 1, 0, 0), (.istore_n 3, 0, 0)] (4, [some (zr (some (11, 333))), some (zi v1), some (zi 0), some (zi 1)], [], h) (by decide +kernel) rfl ?_
  refine zG_forget (L' := [some (zr (some (11, 333))), some (zi v1), some (zi 0), some (zi 1)]) (And.intro rfl (And.intro rfl (And.intro rfl (And.intro rfl trivial)))) ?_
  refine zG_bind (fun y : Int32 => (43, [none, none, some (zi y), none], [], h)) (zG_iter (fun s : Int32 × Int32 => (4, [some (zr (some (11, 333))), some (zi v1), some (zi s.1), some (zi s.2)], [], h)) fun s => k_Mod_orderCost_b4 hl) (fun y6 => ?_)
  refine zG_run t_Mod [(.iload_n 2, 0, 0)] (44, [none, none, some (zi y6), none], [zi y6], h) (by decide +kernel) rfl ?_
  exact zG_ret (r := some (zi y6)) rfl (zrd_i rfl (by decide +kernel))
theorem c_Mod_orderCost {l : Launch} {X : zX} (hl : l.stackTraces = false) {h : zH} {v1 : Int32} {x : Int32} (hx : f_Mod_orderCost h v1 = some x) : zCt l (true, 2) 2 m_Mod_orderCost X 0 0 [zr (some (11, 333)), zi v1] h ((fun a => (.inl (some (zi a)), h) : Int32 → zF) x) :=
  zG_ct (R := fun a => (.inl (some (zi a)), h)) (x := x) ok_Mod_orderCost hl (Nat.le_of_ble_eq_true rfl) hx (k_Mod_orderCost hl)
def m_Mod_goOn : zM := (({ cls := "ScanPackerModel", name := "goOn", desc := "(I)Z" } : Jvm.MethodName), prog_13_method_74_code, 8, (Option.some Jvm.ClassFile.FieldType.boolean), [], 1)
theorem ok_Mod_goOn : zMok m_Mod_goOn := ⟨by decide +kernel, zW_of 1918 (by decide +kernel) (by decide +kernel), zW_of 134 (by decide +kernel) (by decide +kernel), by decide, by decide +kernel, by decide +kernel⟩
set_option maxRecDepth 20000 in
theorem k_Mod_goOn_b4 {l : Launch} {X : zX} (hl : l.stackTraces = false) {h : zH} {v1 : Int32} {v2 : Int32} : zGl l m_Mod_goOn X 0 0 (f_Mod_goOn_b4 h v1 v2) (4, [some (zr (some (11, 333))), some (zi v1), some (zi v2), none, none, none, none, none], [], h) (Sum.elim (fun s : Int32 => .inl (4, [some (zr (some (11, 333))), some (zi v1), some (zi s), none, none, none, none, none], [], h)) (fun y : Int32 => .inl (31, [some (zr (some (11, 333))), some (zi v1), some (zi y), none, none, none, none, none], [], h))) := by
  unfold f_Mod_goOn_b4
  refine zG_run t_Mod [(.iload_n 2, 0, 0)] (5, [some (zr (some (11, 333))), some (zi v1), some (zi v2), none, none, none, none, none], [zi v2], h) (by decide +kernel) rfl ?_
  refine zG_if (op := .lt) (off := 26) (tgt := 31) (by decide +kernel) rfl Iff.rfl (fun c4 => ?_) (fun c4 => ?_)
  · exact zG_end (L' := [some (zr (some (11, 333))), some (zi v1), some (zi v2), none, none, none, none, none]) rfl (And.intro rfl (And.intro rfl (And.intro rfl trivial)))
  · refine zG_run t_Mod [(.aload_n 0, 0, 0), (.getfield 130, 11, 42), (.iload_n 2, 0, 0)] (13, [some (zr (some (11, 333))), some (zi v1), some (zi v2), none, none, none, none, none], [zi v2, zr (some (90, 364))], h) (by decide +kernel) rfl ?_
    refine zG_ald (v := zi (h.1 364 v2.toNatClampNeg)) (n := 6) rfl (by decide +kernel) rfl rfl fun hb1 => ?_
    refine zG_run t_Mod [(.aload_n 0, 0, 0), (.getfield 130, 11, 42), (.iload_n 2, 0, 0), (.iconst 1, 0, 0), (.iadd, 0, 0)] (21, [some (zr (some (11, 333))), some (zi v1), some (zi v2), none, none, none, none, none], [zi (v2 + 1), zr (some (90, 364)), zi (h.1 364 v2.toNatClampNeg)], h) (by decide +kernel) rfl ?_
    refine zG_ald (v := zi (h.1 364 (v2 + 1).toNatClampNeg)) (n := 6) rfl (by decide +kernel) rfl rfl fun hb2 => ?_
    refine zG_icmp (op := .le) (off := 9) (tgt := 31) (by decide +kernel) rfl Iff.rfl (fun c3 => ?_) (fun c3 => ?_)
    · exact zG_end (L' := [some (zr (some (11, 333))), some (zi v1), some (zi v2), none, none, none, none, none]) rfl (And.intro rfl (And.intro rfl (And.intro rfl trivial)))
    · refine zG_run t_Mod [(.iinc 2 (-1), 0, 0), (.goto (-24), 0, 0)] (4, [some (zr (some (11, 333))), some (zi v1), some (zi (v2 + (-1))), none, none, none, none, none], [], h) (by decide +kernel) rfl ?_
      exact zG_end (L' := [some (zr (some (11, 333))), some (zi v1), some (zi (v2 + (-1))), none, none, none, none, none]) rfl (And.intro rfl (And.intro rfl (And.intro rfl trivial)))
set_option maxRecDepth 20000 in
theorem k_Mod_goOn_b41 {l : Launch} {X : zX} (hl : l.stackTraces = false) {h : zH} {v1 : Int32} {v2 : Int32} {v3 : Int32} : zGl l m_Mod_goOn X 0 0 (f_Mod_goOn_b41 h v1 v2 v3) (41, [some (zr (some (11, 333))), some (zi v1), some (zi v2), some (zi v3), none, none, none, none], [], h) (Sum.elim (fun s : Int32 => .inl (41, [some (zr (some (11, 333))), some (zi v1), some (zi v2), some (zi s), none, none, none, none], [], h)) (fun y : Int32 => .inl (62, [some (zr (some (11, 333))), some (zi v1), some (zi v2), some (zi y), none, none, none, none], [], h))) := by
  unfold f_Mod_goOn_b41
  refine zG_run t_Mod [(.aload_n 0, 0, 0), (.getfield 130, 11, 42), (.iload_n 3, 0, 0)] (46, [some (zr (some (11, 333))), some (zi v1), some (zi v2), some (zi v3), none, none, none, none], [zi v3, zr (some (90, 364))], h) (by decide +kernel) rfl ?_
  refine zG_ald (v := zi (h.1 364 v3.toNatClampNeg)) (n := 6) rfl (by decide +kernel) rfl rfl fun hb7 => ?_
  refine zG_run t_Mod [(.aload_n 0, 0, 0), (.getfield 130, 11, 42), (.iload_n 2, 0, 0)] (52, [some (zr (some (11, 333))), some (zi v1), some (zi v2), some (zi v3), none, none, none, none], [zi v2, zr (some (90, 364)), zi (h.1 364 v3.toNatClampNeg)], h) (by decide +kernel) rfl ?_
  refine zG_ald (v := zi (h.1 364 v2.toNatClampNeg)) (n := 6) rfl (by decide +kernel) rfl rfl fun hb8 => ?_
  refine zG_icmp (op := .ge) (off := 9) (tgt := 62) (by decide +kernel) rfl Iff.rfl (fun c9 => ?_) (fun c9 => ?_)
  · exact zG_end (L' := [some (zr (some (11, 333))), some (zi v1), some (zi v2), some (zi v3), none, none, none, none]) rfl (And.intro rfl (And.intro rfl (And.intro rfl (And.intro rfl trivial))))
  · refine zG_run t_Mod [(.iinc 3 (-1), 0, 0), (.goto (-18), 0, 0)] (41, [some (zr (some (11, 333))), some (zi v1), some (zi v2), some (zi (v3 + (-1))), none, none, none, none], [], h) (by decide +kernel) rfl ?_
    exact zG_end (L' := [some (zr (some (11, 333))), some (zi v1), some (zi v2), some (zi (v3 + (-1))), none, none, none, none]) rfl (And.intro rfl (And.intro rfl (And.intro rfl (And.intro rfl trivial))))
set_option maxRecDepth 20000 in
theorem k_Mod_goOn_b100 {l : Launch} {X : zX} (hl : l.stackTraces = false) {h : zH} {v5 : Int32} {v6 : Int32} : zGl l m_Mod_goOn X 0 0 (f_Mod_goOn_b100 h v5 v6) (100, [some (zr (some (11, 333))), none, none, none, none, some (zi v5), some (zi v6), none], [], h) (Sum.elim (fun s : Int32 × Int32 × zH => .inl (100, [some (zr (some (11, 333))), none, none, none, none, some (zi s.1), some (zi s.2.1), none], [], s.2.2)) (fun y : zH => .inl (148, [none, none, none, none, none, none, none, none], [], y))) := by
  unfold f_Mod_goOn_b100
  refine zG_run t_Mod [(.iload 5, 0, 0), (.iload 6, 0, 0)] (104, [some (zr (some (11, 333))), none, none, none, none, some (zi v5), some (zi v6), none], [zi v6, zi v5], h) (by decide +kernel) rfl ?_
  refine zG_icmp (op := .ge) (off := 44) (tgt := 148) (by decide +kernel) rfl Iff.rfl (fun c24 => ?_) (fun c24 => ?_)
  · exact zG_end (L' := [none, none, none, none, none, none, none, none]) rfl (trivial)
  · refine zG_run t_Mod [(.aload_n 0, 0, 0), (.getfield 130, 11, 42), (.iload 5, 0, 0)] (113, [some (zr (some (11, 333))), none, none, none, none, some (zi v5), some (zi v6), none], [zi v5, zr (some (90, 364))], h) (by decide +kernel) rfl ?_
    refine zG_ald (v := zi (h.1 364 v5.toNatClampNeg)) (n := 6) rfl (by decide +kernel) rfl rfl fun hb18 => ?_
    refine zG_run t_Mod [(.istore 7, 0, 0), (.aload_n 0, 0, 0), (.getfield 130, 11, 42), (.iload 5, 0, 0), (.aload_n 0, 0, 0), (.getfield 130, 11, 42), (.iload 6, 0, 0)] (128, [some (zr (some (11, 333))), none, none, none, none, some (zi v5), some (zi v6), some (zi (h.1 364 v5.toNatClampNeg))], [zi v6, zr (some (90, 364)), zi v5, zr (some (90, 364))], h) (by decide +kernel) rfl ?_
    refine zG_ald (v := zi (h.1 364 v6.toNatClampNeg)) (n := 6) rfl (by decide +kernel) rfl rfl fun hb19 => ?_
    refine zG_guard fun hb21 => ?_
    refine zG_bind (fun y => (130, [some (zr (some (11, 333))), none, none, none, none, some (zi v5), some (zi v6), some (zi (h.1 364 v5.toNatClampNeg))], [], y)) (zG_astc (h' := zsI h 364 v5.toNatClampNeg (h.1 364 v6.toNatClampNeg)) rfl (by decide +kernel) hb21 rfl (zG_end (L' := [some (zr (some (11, 333))), none, none, none, none, some (zi v5), some (zi v6), some (zi (h.1 364 v5.toNatClampNeg))]) rfl (And.intro rfl (And.intro rfl (And.intro rfl (And.intro rfl trivial)))))) fun h20 => ?_
    refine zG_run t_Mod [(.aload_n 0, 0, 0), (.getfield 130, 11, 42), (.iload 6, 0, 0), (.iload 7, 0, 0)] (138, [some (zr (some (11, 333))), none, none, none, none, some (zi v5), some (zi v6), some (zi (h.1 364 v5.toNatClampNeg))], [zi (h.1 364 v5.toNatClampNeg), zi v6, zr (some (90, 364))], h20) (by decide +kernel) rfl ?_
    refine zG_guard fun hb23 => ?_
    refine zG_bind (fun y => (139, [some (zr (some (11, 333))), none, none, none, none, some (zi v5), some (zi v6), some (zi (h.1 364 v5.toNatClampNeg))], [], y)) (zG_astc (h' := zsI h20 364 v6.toNatClampNeg (h.1 364 v5.toNatClampNeg)) rfl (by decide +kernel) hb23 rfl (zG_end (L' := [some (zr (some (11, 333))), none, none, none, none, some (zi v5), some (zi v6), some (zi (h.1 364 v5.toNatClampNeg))]) rfl (And.intro rfl (And.intro rfl (And.intro rfl (And.intro rfl trivial)))))) fun h22 => ?_
    refine zG_run t_Mod [(.iinc 5 1, 0, 0), (.iinc 6 (-1), 0, 0), (.goto (-45), 0, 0)] (100, [some (zr (some (11, 333))), none, none, none, none, some (zi (v5 + 1)), some (zi (v6 + (-1))), some (zi (h.1 364 v5.toNatClampNeg))], [], h22) (by decide +kernel) rfl ?_
    exact zG_end (L' := [some (zr (some (11, 333))), none, none, none, none, some (zi (v5 + 1)), some (zi (v6 + (-1))), none]) rfl (And.intro rfl (And.intro rfl (And.intro rfl trivial)))
set_option maxRecDepth 20000 in
theorem k_Mod_goOn {l : Launch} {X : zX} (hl : l.stackTraces = false) {h : zH} {v1 : Int32} : zGl l m_Mod_goOn X 0 0 (f_Mod_goOn h v1) (0, [some (zr (some (11, 333))), some (zi v1), none, none, none, none, none, none], [], h) (fun x => .inr ((fun a => (.inl (some (zi a.1)), a.2) : Int32 × zH → zF) x)) := by
  unfold f_Mod_goOn
  refine zG_run t_Mod [(.iload_n 1, 0, 0), (.iconst 2, 0, 0), (.isub, 0, 0), (.istore_n 2, 0, 0)] (4, [some (zr (some (11, 333))), some (zi v1), some (zi (v1 - 2)), none, none, none, none, none], [], h) (by decide +kernel) rfl ?_
  refine zG_forget (L' := [some (zr (some (11, 333))), some (zi v1), some (zi (v1 - 2)), none, none, none, none, none]) (And.intro rfl (And.intro rfl (And.intro rfl trivial))) ?_
  refine zG_bind (fun y : Int32 => (31, [some (zr (some (11, 333))), some (zi v1), some (zi y), none, none, none, none, none], [], h)) (zG_iter (fun s : Int32 => (4, [some (zr (some (11, 333))), some (zi v1), some (zi s), none, none, none, none, none], [], h)) fun s => k_Mod_goOn_b4 hl) (fun y6 => ?_)
  refine zG_run t_Mod [(.iload_n 2, 0, 0)] (32, [some (zr (some (11, 333))), some (zi v1), some (zi y6), none, none, none, none, none], [zi y6], h) (by decide +kernel) rfl ?_
  refine zG_if (op := .ge) (off := 5) (tgt := 37) (by decide +kernel) rfl Iff.rfl (fun c27 => ?_) (fun c27 => ?_)
  · refine zG_run t_Mod [(.iload_n 1, 0, 0), (.iconst 1, 0, 0), (.isub, 0, 0), (.istore_n 3, 0, 0)] (41, [some (zr (some (11, 333))), some (zi v1), some (zi y6), some (zi (v1 - 1)), none, none, none, none], [], h) (by decide +kernel) rfl ?_
    refine zG_forget (L' := [some (zr (some (11, 333))), some (zi v1), some (zi y6), some (zi (v1 - 1)), none, none, none, none]) (And.intro rfl (And.intro rfl (And.intro rfl (And.intro rfl trivial)))) ?_
    refine zG_bind (fun y : Int32 => (62, [some (zr (some (11, 333))), some (zi v1), some (zi y6), some (zi y), none, none, none, none], [], h)) (zG_iter (fun s : Int32 => (41, [some (zr (some (11, 333))), some (zi v1), some (zi y6), some (zi s), none, none, none, none], [], h)) fun s => k_Mod_goOn_b41 hl) (fun y11 => ?_)
    refine zG_run t_Mod [(.aload_n 0, 0, 0), (.getfield 130, 11, 42), (.iload_n 2, 0, 0)] (67, [some (zr (some (11, 333))), some (zi v1), some (zi y6), some (zi y11), none, none, none, none], [zi y6, zr (some (90, 364))], h) (by decide +kernel) rfl ?_
    refine zG_ald (v := zi (h.1 364 y6.toNatClampNeg)) (n := 6) rfl (by decide +kernel) rfl rfl fun hb12 => ?_
    refine zG_run t_Mod [(.istore 4, 0, 0), (.aload_n 0, 0, 0), (.getfield 130, 11, 42), (.iload_n 2, 0, 0), (.aload_n 0, 0, 0), (.getfield 130, 11, 42), (.iload_n 3, 0, 0)] (80, [some (zr (some (11, 333))), some (zi v1), some (zi y6), some (zi y11), some (zi (h.1 364 y6.toNatClampNeg)), none, none, none], [zi y11, zr (some (90, 364)), zi y6, zr (some (90, 364))], h) (by decide +kernel) rfl ?_
    refine zG_ald (v := zi (h.1 364 y11.toNatClampNeg)) (n := 6) rfl (by decide +kernel) rfl rfl fun hb13 => ?_
    refine zG_guard fun hb15 => ?_
    refine zG_bind (fun y => (82, [some (zr (some (11, 333))), some (zi v1), some (zi y6), some (zi y11), some (zi (h.1 364 y6.toNatClampNeg)), none, none, none], [], y)) (zG_astc (h' := zsI h 364 y6.toNatClampNeg (h.1 364 y11.toNatClampNeg)) rfl (by decide +kernel) hb15 rfl (zG_end (L' := [some (zr (some (11, 333))), some (zi v1), some (zi y6), some (zi y11), some (zi (h.1 364 y6.toNatClampNeg)), none, none, none]) rfl (And.intro rfl (And.intro rfl (And.intro rfl (And.intro rfl (And.intro rfl trivial))))))) fun h14 => ?_
    refine zG_run t_Mod [(.aload_n 0, 0, 0), (.getfield 130, 11, 42), (.iload_n 3, 0, 0), (.iload 4, 0, 0)] (89, [some (zr (some (11, 333))), some (zi v1), some (zi y6), some (zi y11), some (zi (h.1 364 y6.toNatClampNeg)), none, none, none], [zi (h.1 364 y6.toNatClampNeg), zi y11, zr (some (90, 364))], h14) (by decide +kernel) rfl ?_
    refine zG_guard fun hb17 => ?_
    refine zG_bind (fun y => (90, [some (zr (some (11, 333))), some (zi v1), some (zi y6), some (zi y11), some (zi (h.1 364 y6.toNatClampNeg)), none, none, none], [], y)) (zG_astc (h' := zsI h14 364 y11.toNatClampNeg (h.1 364 y6.toNatClampNeg)) rfl (by decide +kernel) hb17 rfl (zG_end (L' := [some (zr (some (11, 333))), some (zi v1), some (zi y6), some (zi y11), some (zi (h.1 364 y6.toNatClampNeg)), none, none, none]) rfl (And.intro rfl (And.intro rfl (And.intro rfl (And.intro rfl (And.intro rfl trivial))))))) fun h16 => ?_
    refine zG_run t_Mod [(.iload_n 2, 0, 0), (.iconst 1, 0, 0), (.iadd, 0, 0), (.istore 5, 0, 0), (.iload_n 1, 0, 0), (.iconst 1, 0, 0), (.isub, 0, 0), (.istore 6, 0, 0)] (100, [some (zr (some (11, 333))), some (zi v1), some (zi y6), some (zi y11), some (zi (h.1 364 y6.toNatClampNeg)), some (zi (y6 + 1)), some (zi (v1 - 1)), none], [], h16) (by decide +kernel) rfl ?_
    refine zG_forget (L' := [some (zr (some (11, 333))), none, none, none, none, some (zi (y6 + 1)), some (zi (v1 - 1)), none]) (And.intro rfl (And.intro rfl (And.intro rfl trivial))) ?_
    refine zG_bind (fun y : zH => (148, [none, none, none, none, none, none, none, none], [], y)) (zG_iter (fun s : Int32 × Int32 × zH => (100, [some (zr (some (11, 333))), none, none, none, none, some (zi s.1), some (zi s.2.1), none], [], s.2.2)) fun s => k_Mod_goOn_b100 hl) (fun y26 => ?_)
    refine zG_run t_Mod [(.iconst 1, 0, 0)] (149, [none, none, none, none, none, none, none, none], [zi 1], y26) (by decide +kernel) rfl ?_
    exact zG_ret (r := some (zi 1)) rfl (zrd_z rfl (by decide +kernel) rfl)
  · refine zG_run t_Mod [(.iconst 0, 0, 0)] (36, [some (zr (some (11, 333))), some (zi v1), some (zi y6), none, none, none, none, none], [zi 0], h) (by decide +kernel) rfl ?_
    exact zG_ret (r := some (zi 0)) rfl (zrd_z rfl (by decide +kernel) rfl)
theorem c_Mod_goOn {l : Launch} {X : zX} (hl : l.stackTraces = false) {h : zH} {v1 : Int32} {x : Int32 × zH} (hx : f_Mod_goOn h v1 = some x) : zCt l (true, 2) 2 m_Mod_goOn X 0 0 [zr (some (11, 333)), zi v1] h ((fun a => (.inl (some (zi a.1)), a.2) : Int32 × zH → zF) x) :=
  zG_ct (R := fun a => (.inl (some (zi a.1)), a.2)) (x := x) ok_Mod_goOn hl (Nat.le_of_ble_eq_true rfl) hx (k_Mod_goOn hl)
def m_Mod_order : zM := (({ cls := "ScanPackerModel", name := "order", desc := "(II)I" } : Jvm.MethodName), prog_13_method_75_code, 8, (Option.some Jvm.ClassFile.FieldType.int), [], 5)
theorem ok_Mod_order : zMok m_Mod_order := ⟨by decide +kernel, zW_of 1906 (by decide +kernel) (by decide +kernel), zW_of 134 (by decide +kernel) (by decide +kernel), by decide, by decide +kernel, by decide +kernel⟩
set_option maxRecDepth 20000 in
theorem k_Mod_order_j37 {l : Launch} {X : zX} (hl : l.stackTraces = false) {h : zH} : zGl l m_Mod_order X 0 0 (f_Mod_order_j37 h) (37, [some (zr (some (11, 333))), none, none, none, none, none, none, none], [], h) (fun x => .inr ((fun a => (.inl (some (zi a.1)), a.2) : Int32 × zH → zF) x)) := by
  unfold f_Mod_order_j37
  refine zG_run t_Mod [(.aload_n 0, 0, 0), (.iconst 1, 0, 0)] (39, [some (zr (some (11, 333))), none, none, none, none, none, none, none], [zi 1, zr (some (11, 333))], h) (by decide +kernel) rfl ?_
  refine zG_callV (idx := 288) (R := (fun a => (some (zi a.1), a.2))) (as := [zi 1]) (rest := []) (n := 1) (fun a ha => c_Mod_fail hl ha) (by decide +kernel) ⟨ok_Mod_fail, by decide, by decide +kernel⟩ rfl w_378 w_379 w_380 (by decide) rfl rfl rfl (Nat.le_of_ble_eq_true rfl) fun x3 => ?_
  exact zG_ret (r := some (zi x3.1)) rfl (zrd_i rfl (by decide +kernel))
set_option maxRecDepth 20000 in
theorem k_Mod_order_b48 {l : Launch} {X : zX} (hl : l.stackTraces = false) {h : zH} {v1 : Int32} {v2 : Int32} {v3 : Int32} {v4 : Int32} : zGl l m_Mod_order X 0 0 (f_Mod_order_b48 h v1 v2 v3 v4) (48, [some (zr (some (11, 333))), some (zi v1), some (zi v2), some (zi v3), some (zi v4), none, none, none], [], h) (Sum.elim (fun s : Int32 × Int32 × zH => .inl (48, [some (zr (some (11, 333))), some (zi v1), some (zi v2), some (zi s.1), some (zi s.2.1), none, none, none], [], s.2.2)) (fun y : Int32 × zH => .inl (90, [some (zr (some (11, 333))), none, some (zi v2), some (zi y.1), none, none, none, none], [], y.2))) := by
  unfold f_Mod_order_b48
  refine zG_run t_Mod [(.iload 4, 0, 0), (.aload_n 0, 0, 0), (.getfield 40, 11, 3), (.iconst 0, 0, 0)] (55, [some (zr (some (11, 333))), some (zi v1), some (zi v2), some (zi v3), some (zi v4), none, none, none], [zi 0, zr (some (62, 336)), zi v4], h) (by decide +kernel) rfl ?_
  refine zG_aldc (v := zi (h.1 336 0)) rfl (by decide +kernel) (by decide +kernel) rfl ?_
  refine zG_icmp (op := .ge) (off := 34) (tgt := 90) (by decide +kernel) rfl Iff.rfl (fun c10 => ?_) (fun c10 => ?_)
  · exact zG_end (L' := [some (zr (some (11, 333))), none, some (zi v2), some (zi v3), none, none, none, none]) rfl (And.intro rfl (And.intro rfl (And.intro rfl trivial)))
  · refine zG_run t_Mod [(.aload_n 0, 0, 0), (.getfield 56, 11, 8), (.iload 4, 0, 0)] (65, [some (zr (some (11, 333))), some (zi v1), some (zi v2), some (zi v3), some (zi v4), none, none, none], [zi v4, zr (some (67, 341))], h) (by decide +kernel) rfl ?_
    refine zG_ald (v := zi (h.1 341 v4.toNatClampNeg)) (n := 12) rfl (by decide +kernel) rfl rfl fun hb6 => ?_
    refine zG_run t_Mod [(.iload_n 1, 0, 0)] (67, [some (zr (some (11, 333))), some (zi v1), some (zi v2), some (zi v3), some (zi v4), none, none, none], [zi v1, zi (h.1 341 v4.toNatClampNeg)], h) (by decide +kernel) rfl ?_
    refine zG_icmp (op := .eq) (off := 6) (tgt := 73) (by decide +kernel) rfl Iff.rfl (fun c9 => ?_) (fun c9 => ?_)
    · refine zG_run t_Mod [(.aload_n 0, 0, 0), (.getfield 130, 11, 42), (.iload_n 3, 0, 0), (.iload 4, 0, 0)] (80, [some (zr (some (11, 333))), some (zi v1), some (zi v2), some (zi v3), some (zi v4), none, none, none], [zi v4, zi v3, zr (some (90, 364))], h) (by decide +kernel) rfl ?_
      refine zG_guard fun hb8 => ?_
      refine zG_bind (fun y => (81, [some (zr (some (11, 333))), some (zi v1), some (zi v2), some (zi v3), some (zi v4), none, none, none], [], y)) (zG_astc (h' := zsI h 364 v3.toNatClampNeg v4) rfl (by decide +kernel) hb8 rfl (zG_end (L' := [some (zr (some (11, 333))), some (zi v1), some (zi v2), some (zi v3), some (zi v4), none, none, none]) rfl (And.intro rfl (And.intro rfl (And.intro rfl (And.intro rfl (And.intro rfl trivial))))))) fun h7 => ?_
      refine zG_run t_Mod [(.iinc 3 1, 0, 0), (.iinc 4 1, 0, 0), (.goto (-39), 0, 0)] (48, [some (zr (some (11, 333))), some (zi v1), some (zi v2), some (zi (v3 + 1)), some (zi (v4 + 1)), none, none, none], [], h7) (by decide +kernel) rfl ?_
      exact zG_end (L' := [some (zr (some (11, 333))), some (zi v1), some (zi v2), some (zi (v3 + 1)), some (zi (v4 + 1)), none, none, none]) rfl (And.intro rfl (And.intro rfl (And.intro rfl (And.intro rfl (And.intro rfl trivial)))))
    · refine zG_run t_Mod [(.goto 14, 0, 0), (.iinc 4 1, 0, 0), (.goto (-39), 0, 0)] (48, [some (zr (some (11, 333))), some (zi v1), some (zi v2), some (zi v3), some (zi (v4 + 1)), none, none, none], [], h) (by decide +kernel) rfl ?_
      exact zG_end (L' := [some (zr (some (11, 333))), some (zi v1), some (zi v2), some (zi v3), some (zi (v4 + 1)), none, none, none]) rfl (And.intro rfl (And.intro rfl (And.intro rfl (And.intro rfl (And.intro rfl trivial)))))
set_option maxRecDepth 20000 in
theorem k_Mod_order_b136 {l : Launch} {X : zX} (hl : l.stackTraces = false) {h : zH} {v2 : Int32} {v3 : Int32} {v4 : Int32} {v7 : Int32} : zGl l m_Mod_order X 0 0 (f_Mod_order_b136 h v2 v3 v4 v7) (136, [some (zr (some (11, 333))), none, some (zi v2), some (zi v3), some (zi v4), none, none, some (zi v7)], [], h) (Sum.elim (fun s : Int32 × zH => .inl (136, [some (zr (some (11, 333))), none, some (zi v2), some (zi v3), some (zi v4), none, none, some (zi s.1)], [], s.2)) (fun y : zH => .inl (162, [some (zr (some (11, 333))), none, some (zi v2), some (zi v3), some (zi v4), none, none, none], [], y))) := by
  unfold f_Mod_order_b136
  refine zG_run t_Mod [(.iload 7, 0, 0), (.iload_n 3, 0, 0)] (139, [some (zr (some (11, 333))), none, some (zi v2), some (zi v3), some (zi v4), none, none, some (zi v7)], [zi v3, zi v7], h) (by decide +kernel) rfl ?_
  refine zG_icmp (op := .ge) (off := 23) (tgt := 162) (by decide +kernel) rfl Iff.rfl (fun c19 => ?_) (fun c19 => ?_)
  · exact zG_end (L' := [some (zr (some (11, 333))), none, some (zi v2), some (zi v3), some (zi v4), none, none, none]) rfl (And.intro rfl (And.intro rfl (And.intro rfl (And.intro rfl trivial))))
  · refine zG_run t_Mod [(.aload_n 0, 0, 0), (.getfield 133, 11, 43), (.iload 7, 0, 0), (.aload_n 0, 0, 0), (.getfield 130, 11, 42), (.iload 7, 0, 0)] (154, [some (zr (some (11, 333))), none, some (zi v2), some (zi v3), some (zi v4), none, none, some (zi v7)], [zi v7, zr (some (90, 364)), zi v7, zr (some (91, 365))], h) (by decide +kernel) rfl ?_
    refine zG_ald (v := zi (h.1 364 v7.toNatClampNeg)) (n := 6) rfl (by decide +kernel) rfl rfl fun hb16 => ?_
    refine zG_guard fun hb18 => ?_
    refine zG_bind (fun y => (156, [some (zr (some (11, 333))), none, some (zi v2), some (zi v3), some (zi v4), none, none, some (zi v7)], [], y)) (zG_astc (h' := zsI h 365 v7.toNatClampNeg (h.1 364 v7.toNatClampNeg)) rfl (by decide +kernel) hb18 rfl (zG_end (L' := [some (zr (some (11, 333))), none, some (zi v2), some (zi v3), some (zi v4), none, none, some (zi v7)]) rfl (And.intro rfl (And.intro rfl (And.intro rfl (And.intro rfl (And.intro rfl trivial))))))) fun h17 => ?_
    refine zG_run t_Mod [(.iinc 7 1, 0, 0), (.goto (-23), 0, 0)] (136, [some (zr (some (11, 333))), none, some (zi v2), some (zi v3), some (zi v4), none, none, some (zi (v7 + 1))], [], h17) (by decide +kernel) rfl ?_
    exact zG_end (L' := [some (zr (some (11, 333))), none, some (zi v2), some (zi v3), some (zi v4), none, none, some (zi (v7 + 1))]) rfl (And.intro rfl (And.intro rfl (And.intro rfl (And.intro rfl (And.intro rfl trivial)))))
set_option maxRecDepth 20000 in
theorem k_Mod_order_j162 {l : Launch} {X : zX} (hl : l.stackTraces = false) {h : zH} {v2 : Int32} {v3 : Int32} {v4 : Int32} : zGl l m_Mod_order X 0 0 (f_Mod_order_j162 h v2 v3 v4) (162, [some (zr (some (11, 333))), none, some (zi v2), some (zi v3), some (zi v4), none, none, none], [], h) (Sum.elim (fun s : Int32 × Int32 × zH => .inl (104, [some (zr (some (11, 333))), none, some (zi v2), some (zi v3), some (zi s.1), some (zi s.2.1), none, none], [], s.2.2)) (fun y : Int32 × zH => .inl (172, [some (zr (some (11, 333))), none, some (zi v2), none, some (zi y.1), none, none, none], [], y.2))) := by
  unfold f_Mod_order_j162
  refine zG_run t_Mod [(.aload_n 0, 0, 0), (.iload_n 3, 0, 0)] (164, [some (zr (some (11, 333))), none, some (zi v2), some (zi v3), some (zi v4), none, none, none], [zi v3, zr (some (11, 333))], h) (by decide +kernel) rfl ?_
  refine zG_callV (idx := 416) (R := (fun a => (some (zi a.1), a.2))) (as := [zi v3]) (rest := []) (n := 1) (fun a ha => c_Mod_goOn hl ha) (by decide +kernel) ⟨ok_Mod_goOn, by decide, by decide +kernel⟩ rfl w_552 w_553 w_554 (by decide) rfl rfl rfl (Nat.le_of_ble_eq_true rfl) fun x22 => ?_
  refine zG_run t_Mod [(.istore 5, 0, 0), (.goto (-65), 0, 0)] (104, [some (zr (some (11, 333))), none, some (zi v2), some (zi v3), some (zi v4), some (zi x22.1), none, none], [], x22.2) (by decide +kernel) rfl ?_
  exact zG_end (L' := [some (zr (some (11, 333))), none, some (zi v2), some (zi v3), some (zi v4), some (zi x22.1), none, none]) rfl (And.intro rfl (And.intro rfl (And.intro rfl (And.intro rfl (And.intro rfl trivial)))))
set_option maxRecDepth 20000 in
theorem k_Mod_order_j129 {l : Launch} {X : zX} (hl : l.stackTraces = false) {h : zH} {v2 : Int32} {v3 : Int32} {v6 : Int32} : zGl l m_Mod_order X 0 0 (f_Mod_order_j129 h v2 v3 v6) (129, [some (zr (some (11, 333))), none, some (zi v2), some (zi v3), none, none, some (zi v6), none], [], h) (Sum.elim (fun s : Int32 × Int32 × zH => .inl (104, [some (zr (some (11, 333))), none, some (zi v2), some (zi v3), some (zi s.1), some (zi s.2.1), none, none], [], s.2.2)) (fun y : Int32 × zH => .inl (172, [some (zr (some (11, 333))), none, some (zi v2), none, some (zi y.1), none, none, none], [], y.2))) := by
  unfold f_Mod_order_j129
  refine zG_run t_Mod [(.iload 6, 0, 0), (.istore 4, 0, 0), (.iconst 0, 0, 0), (.istore 7, 0, 0)] (136, [some (zr (some (11, 333))), none, some (zi v2), some (zi v3), some (zi v6), none, some (zi v6), some (zi 0)], [], h) (by decide +kernel) rfl ?_
  refine zG_forget (L' := [some (zr (some (11, 333))), none, some (zi v2), some (zi v3), some (zi v6), none, none, some (zi 0)]) (And.intro rfl (And.intro rfl (And.intro rfl (And.intro rfl (And.intro rfl trivial))))) ?_
  refine zG_bind (fun y : zH => (162, [some (zr (some (11, 333))), none, some (zi v2), some (zi v3), some (zi v6), none, none, none], [], y)) (zG_iter (fun s : Int32 × zH => (136, [some (zr (some (11, 333))), none, some (zi v2), some (zi v3), some (zi v6), none, none, some (zi s.1)], [], s.2)) fun s => k_Mod_order_b136 hl) (fun y21 => ?_)
  exact zG_forget (L' := [some (zr (some (11, 333))), none, some (zi v2), some (zi v3), some (zi v6), none, none, none]) (And.intro rfl (And.intro rfl (And.intro rfl (And.intro rfl trivial)))) (k_Mod_order_j162 hl)
set_option maxRecDepth 20000 in
theorem k_Mod_order_b104 {l : Launch} {X : zX} (hl : l.stackTraces = false) {h : zH} {v2 : Int32} {v3 : Int32} {v4 : Int32} {v5 : Int32} : zGl l m_Mod_order X 0 0 (f_Mod_order_b104 h v2 v3 v4 v5) (104, [some (zr (some (11, 333))), none, some (zi v2), some (zi v3), some (zi v4), some (zi v5), none, none], [], h) (Sum.elim (fun s : Int32 × Int32 × zH => .inl (104, [some (zr (some (11, 333))), none, some (zi v2), some (zi v3), some (zi s.1), some (zi s.2.1), none, none], [], s.2.2)) (fun y : Int32 × zH => .inl (172, [some (zr (some (11, 333))), none, some (zi v2), none, some (zi y.1), none, none, none], [], y.2))) := by
  unfold f_Mod_order_b104
  refine zG_run t_Mod [(.iload 5, 0, 0)] (106, [some (zr (some (11, 333))), none, some (zi v2), some (zi v3), some (zi v4), some (zi v5), none, none], [zi v5], h) (by decide +kernel) rfl ?_
  refine zG_if (op := .eq) (off := 66) (tgt := 172) (by decide +kernel) rfl Iff.rfl (fun c25 => ?_) (fun c25 => ?_)
  · exact zG_end (L' := [some (zr (some (11, 333))), none, some (zi v2), none, some (zi v4), none, none, none]) rfl (And.intro rfl (And.intro rfl (And.intro rfl trivial)))
  · refine zG_run t_Mod [(.aload_n 0, 0, 0), (.iload_n 3, 0, 0)] (111, [some (zr (some (11, 333))), none, some (zi v2), some (zi v3), some (zi v4), some (zi v5), none, none], [zi v3, zr (some (11, 333))], h) (by decide +kernel) rfl ?_
    refine zG_callV (idx := 413) (R := (fun a => (some (zi a), h))) (as := [zi v3]) (rest := []) (n := 1) (fun a ha => c_Mod_orderCost hl ha) (by decide +kernel) ⟨ok_Mod_orderCost, by decide, by decide +kernel⟩ rfl w_549 w_550 w_551 (by decide) rfl rfl rfl (Nat.le_of_ble_eq_true rfl) fun x15 => ?_
    refine zG_run t_Mod [(.istore 6, 0, 0), (.iload 4, 0, 0), (.iconst (-1), 0, 0)] (119, [some (zr (some (11, 333))), none, some (zi v2), some (zi v3), some (zi v4), some (zi v5), some (zi x15), none], [zi (-1), zi v4], h) (by decide +kernel) rfl ?_
    refine zG_icmp (op := .eq) (off := 10) (tgt := 129) (by decide +kernel) rfl Iff.rfl (fun c24 => ?_) (fun c24 => ?_)
    · exact zG_forget (L' := [some (zr (some (11, 333))), none, some (zi v2), some (zi v3), none, none, some (zi x15), none]) (And.intro rfl (And.intro rfl (And.intro rfl (And.intro rfl trivial)))) (k_Mod_order_j129 hl)
    · refine zG_run t_Mod [(.iload 6, 0, 0), (.iload 4, 0, 0)] (126, [some (zr (some (11, 333))), none, some (zi v2), some (zi v3), some (zi v4), some (zi v5), some (zi x15), none], [zi v4, zi x15], h) (by decide +kernel) rfl ?_
      refine zG_icmp (op := .ge) (off := 36) (tgt := 162) (by decide +kernel) rfl Iff.rfl (fun c23 => ?_) (fun c23 => ?_)
      · exact zG_forget (L' := [some (zr (some (11, 333))), none, some (zi v2), some (zi v3), some (zi v4), none, none, none]) (And.intro rfl (And.intro rfl (And.intro rfl (And.intro rfl trivial)))) (k_Mod_order_j162 hl)
      · exact zG_forget (L' := [some (zr (some (11, 333))), none, some (zi v2), some (zi v3), none, none, some (zi x15), none]) (And.intro rfl (And.intro rfl (And.intro rfl (And.intro rfl trivial)))) (k_Mod_order_j129 hl)
set_option maxRecDepth 20000 in
theorem k_Mod_order {l : Launch} {X : zX} (hl : l.stackTraces = false) {h : zH} {v1 : Int32} {v2 : Int32} : zGl l m_Mod_order X 0 0 (f_Mod_order h v1 v2) (0, [some (zr (some (11, 333))), some (zi v1), some (zi v2), none, none, none, none, none], [], h) (fun x => .inr ((fun a => (.inl (some (zi a.1)), a.2) : Int32 × zH → zF) x)) := by
  unfold f_Mod_order
  refine zG_bind (fun y => (5, [some (zr (some (11, 333))), some (zi v1), some (zi v2), none, none, none, none, none], [], y)) (zG_run t_Mod [(.aload_n 0, 0, 0), (.iconst 0, 0, 0), (.putfield 181, 11, 2)] (5, [some (zr (some (11, 333))), some (zi v1), some (zi v2), none, none, none, none, none], [], zsI h 333 2 0) (by decide +kernel) rfl (zG_end (L' := [some (zr (some (11, 333))), some (zi v1), some (zi v2), none, none, none, none, none]) rfl (And.intro rfl (And.intro rfl (And.intro rfl trivial))))) fun h1 => ?_
  refine zG_run t_Mod [(.iload_n 1, 0, 0), (.iconst 0, 0, 0), (.aload_n 0, 0, 0), (.getfield 40, 11, 3), (.iconst 2, 0, 0)] (12, [some (zr (some (11, 333))), some (zi v1), some (zi v2), none, none, none, none, none], [zi 2, zr (some (62, 336)), zi 0, zi v1], h1) (by decide +kernel) rfl ?_
  refine zG_aldc (v := zi (h1.1 336 2)) rfl (by decide +kernel) (by decide +kernel) rfl ?_
  refine zG_run t_Mod [(.iconst 1, 0, 0), (.isub, 0, 0)] (15, [some (zr (some (11, 333))), some (zi v1), some (zi v2), none, none, none, none, none], [zi ((h1.1 336 2) - 1), zi 0, zi v1], h1) (by decide +kernel) rfl ?_
  refine zG_callS (idx := 391) (R := (fun a => (some (zi a), h1))) (as := [zi v1, zi 0, zi ((h1.1 336 2) - 1)]) (rest := []) (n := 3) (fun a ha => c_Mod_isIn hl ha) (by decide +kernel) ⟨ok_Mod_isIn, by decide, by decide +kernel⟩ rfl w_526 w_527 rfl rfl (Nat.le_of_ble_eq_true rfl) fun x2 => ?_
  refine zG_if (op := .eq) (off := 19) (tgt := 37) (by decide +kernel) rfl Iff.rfl (fun c31 => ?_) (fun c31 => ?_)
  · exact zG_forget (L' := [some (zr (some (11, 333))), none, none, none, none, none, none, none]) (And.intro rfl trivial) (k_Mod_order_j37 hl)
  · refine zG_run t_Mod [(.iload_n 2, 0, 0), (.iconst (-1), 0, 0), (.aload_n 0, 0, 0), (.getfield 62, 11, 10), (.iload_n 1, 0, 0)] (28, [some (zr (some (11, 333))), some (zi v1), some (zi v2), none, none, none, none, none], [zi v1, zr (some (69, 343)), zi (-1), zi v2], h1) (by decide +kernel) rfl ?_
    refine zG_ald (v := zi (h1.1 343 v1.toNatClampNeg)) (n := 6) rfl (by decide +kernel) rfl rfl fun hb4 => ?_
    refine zG_run t_Mod [(.iconst 1, 0, 0), (.isub, 0, 0)] (31, [some (zr (some (11, 333))), some (zi v1), some (zi v2), none, none, none, none, none], [zi ((h1.1 343 v1.toNatClampNeg) - 1), zi (-1), zi v2], h1) (by decide +kernel) rfl ?_
    refine zG_callS (idx := 391) (R := (fun a => (some (zi a), h1))) (as := [zi v2, zi (-1), zi ((h1.1 343 v1.toNatClampNeg) - 1)]) (rest := []) (n := 3) (fun a ha => c_Mod_isIn hl ha) (by decide +kernel) ⟨ok_Mod_isIn, by decide, by decide +kernel⟩ rfl w_526 w_527 rfl rfl (Nat.le_of_ble_eq_true rfl) fun x5 => ?_
    refine zG_if (op := .ne) (off := 9) (tgt := 43) (by decide +kernel) rfl Iff.rfl (fun c30 => ?_) (fun c30 => ?_)
    · refine zG_run t_Mod [(.iconst 0, 0, 0), (.istore_n 3, 0, 0), (.iconst 0, 0, 0), (.istore 4, 0, 0)] (48, [some (zr (some (11, 333))), some (zi v1), some (zi v2), some (zi 0), some (zi 0), none, none, none], [], h1) (by decide +kernel) rfl ?_
      refine zG_forget (L' := [some (zr (some (11, 333))), some (zi v1), some (zi v2), some (zi 0), some (zi 0), none, none, none]) (And.intro rfl (And.intro rfl (And.intro rfl (And.intro rfl (And.intro rfl trivial))))) ?_
      refine zG_bind (fun y : Int32 × zH => (90, [some (zr (some (11, 333))), none, some (zi v2), some (zi y.1), none, none, none, none], [], y.2)) (zG_iter (fun s : Int32 × Int32 × zH => (48, [some (zr (some (11, 333))), some (zi v1), some (zi v2), some (zi s.1), some (zi s.2.1), none, none, none], [], s.2.2)) fun s => k_Mod_order_b48 hl) (fun y12 => ?_)
      refine zG_run t_Mod [(.aload_n 0, 0, 0)] (91, [some (zr (some (11, 333))), none, some (zi v2), some (zi y12.1), none, none, none, none], [zr (some (11, 333))], y12.2) (by decide +kernel) rfl ?_
      refine zG_callV (idx := 388) (R := (fun a => (none, a))) (as := []) (rest := []) (n := 0) (fun a ha => c_Mod_tellProgram hl ha) (by decide +kernel) ⟨ok_Mod_tellProgram, by decide, by decide +kernel⟩ rfl w_523 w_524 w_525 (by decide) rfl rfl rfl (Nat.le_of_ble_eq_true rfl) fun x13 => ?_
      refine zG_run t_Mod [(.aload_n 0, 0, 0)] (95, [some (zr (some (11, 333))), none, some (zi v2), some (zi y12.1), none, none, none, none], [zr (some (11, 333))], x13) (by decide +kernel) rfl ?_
      refine zG_callV (idx := 410) (R := (fun a => (none, a))) (as := []) (rest := []) (n := 0) (fun a ha => c_Mod_tellApart hl ha) (by decide +kernel) ⟨ok_Mod_tellApart, by decide, by decide +kernel⟩ rfl w_546 w_547 w_548 (by decide) rfl rfl rfl (Nat.le_of_ble_eq_true rfl) fun x14 => ?_
      refine zG_run t_Mod [(.iconst (-1), 0, 0), (.istore 4, 0, 0), (.iconst 1, 0, 0), (.istore 5, 0, 0)] (104, [some (zr (some (11, 333))), none, some (zi v2), some (zi y12.1), some (zi (-1)), some (zi 1), none, none], [], x14) (by decide +kernel) rfl ?_
      refine zG_forget (L' := [some (zr (some (11, 333))), none, some (zi v2), some (zi y12.1), some (zi (-1)), some (zi 1), none, none]) (And.intro rfl (And.intro rfl (And.intro rfl (And.intro rfl (And.intro rfl trivial))))) ?_
      refine zG_bind (fun y : Int32 × zH => (172, [some (zr (some (11, 333))), none, some (zi v2), none, some (zi y.1), none, none, none], [], y.2)) (zG_iter (fun s : Int32 × Int32 × zH => (104, [some (zr (some (11, 333))), none, some (zi v2), some (zi y12.1), some (zi s.1), some (zi s.2.1), none, none], [], s.2.2)) fun s => k_Mod_order_b104 hl) (fun y27 => ?_)
      refine zG_run t_Mod [(.iload_n 2, 0, 0), (.iconst (-1), 0, 0)] (174, [some (zr (some (11, 333))), none, some (zi v2), none, some (zi y27.1), none, none, none], [zi (-1), zi v2], y27.2) (by decide +kernel) rfl ?_
      refine zG_icmp (op := .ne) (off := 8) (tgt := 182) (by decide +kernel) rfl Iff.rfl (fun c29 => ?_) (fun c29 => ?_)
      · refine zG_run t_Mod [(.aload_n 0, 0, 0), (.getfield 133, 11, 43), (.iload_n 2, 0, 0)] (187, [some (zr (some (11, 333))), none, some (zi v2), none, some (zi y27.1), none, none, none], [zi v2, zr (some (91, 365))], y27.2) (by decide +kernel) rfl ?_
        refine zG_ald (v := zi (y27.2.1 365 v2.toNatClampNeg)) (n := 6) rfl (by decide +kernel) rfl rfl fun hb28 => ?_
        exact zG_ret (r := some (zi (y27.2.1 365 v2.toNatClampNeg))) rfl (zrd_i rfl (by decide +kernel))
      · refine zG_run t_Mod [(.iload 4, 0, 0), (.goto 9, 0, 0)] (188, [some (zr (some (11, 333))), none, some (zi v2), none, some (zi y27.1), none, none, none], [zi y27.1], y27.2) (by decide +kernel) rfl ?_
        exact zG_ret (r := some (zi y27.1)) rfl (zrd_i rfl (by decide +kernel))
    · exact zG_forget (L' := [some (zr (some (11, 333))), none, none, none, none, none, none, none]) (And.intro rfl trivial) (k_Mod_order_j37 hl)
theorem c_Mod_order {l : Launch} {X : zX} (hl : l.stackTraces = false) {h : zH} {v1 : Int32} {v2 : Int32} {x : Int32 × zH} (hx : f_Mod_order h v1 v2 = some x) : zCt l (true, 2) 2 m_Mod_order X 0 0 [zr (some (11, 333)), zi v1, zi v2] h ((fun a => (.inl (some (zi a.1)), a.2) : Int32 × zH → zF) x) :=
  zG_ct (R := fun a => (.inl (some (zi a.1)), a.2)) (x := x) ok_Mod_order hl (Nat.le_of_ble_eq_true rfl) hx (k_Mod_order hl)
