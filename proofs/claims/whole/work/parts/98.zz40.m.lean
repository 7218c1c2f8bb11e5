/-! methods, by wip/whole/gen.py -/
def m_Mod_readSeen : zM := (({ cls := "ScanPackerModel", name := "readSeen", desc := "()V" } : Jvm.MethodName), prog_13_method_25_code, 3, (Option.none : Option Jvm.ClassFile.FieldType), [], 10)
theorem ok_Mod_readSeen : zMok m_Mod_readSeen := ⟨by decide +kernel, zW_of 1748 (by decide +kernel) (by decide +kernel), zW_of 134 (by decide +kernel) (by decide +kernel), by decide, by decide +kernel, by decide +kernel⟩
set_option maxRecDepth 20000 in
theorem k_Mod_readSeen_j80 {l : Launch} {X : zX} (hl : l.stackTraces = false) {h : zH} {t0 : Int32} : zGl l m_Mod_readSeen X 0 0 (f_Mod_readSeen_j80 h t0) (80, [some (zr (some (11, 333))), none, none], [zi t0], h) (Sum.elim (fun s : Int32 × zH => .inl (6, [some (zr (some (11, 333))), some (zi s.1), none], [], s.2)) (Sum.elim (fun y : zH => .inl (49, [none, none, none], [], y)) (fun y : zH => .inl (84, [none, none, none], [], y)))) := by
  unfold f_Mod_readSeen_j80
  refine zG_run t_Mod [(.istore_n 1, 0, 0), (.goto (-75), 0, 0)] (6, [some (zr (some (11, 333))), some (zi t0), none], [], h) (by decide +kernel) rfl ?_
  exact zG_end (L' := [some (zr (some (11, 333))), some (zi t0), none]) rfl (And.intro rfl (And.intro rfl trivial))
set_option maxRecDepth 20000 in
theorem k_Mod_readSeen_j42 {l : Launch} {X : zX} (hl : l.stackTraces = false) {h : zH} {v2 : Int32} : zGl l m_Mod_readSeen X 0 0 (f_Mod_readSeen_j42 h v2) (42, [some (zr (some (11, 333))), none, some (zi v2)], [], h) (Sum.elim (fun s : Int32 × zH => .inl (6, [some (zr (some (11, 333))), some (zi s.1), none], [], s.2)) (Sum.elim (fun y : zH => .inl (49, [none, none, none], [], y)) (fun y : zH => .inl (84, [none, none, none], [], y)))) := by
  unfold f_Mod_readSeen_j42
  refine zG_run t_Mod [(.aload_n 0, 0, 0), (.getfield 216, 11, 24)] (46, [some (zr (some (11, 333))), none, some (zi v2)], [zi (h.1 333 24)], h) (by decide +kernel) rfl ?_
  refine zG_if (op := .eq) (off := 4) (tgt := 50) (by decide +kernel) rfl Iff.rfl (fun c8 => ?_) (fun c8 => ?_)
  · refine zG_run t_Mod [(.aload_n 0, 0, 0), (.getfield 53, 11, 7), (.bipush 22, 0, 0), (.iload_n 2, 0, 0), (.iadd, 0, 0), (.dup2, 0, 0)] (59, [some (zr (some (11, 333))), none, some (zi v2)], [zi (22 + v2), zr (some (66, 340)), zi (22 + v2), zr (some (66, 340))], h) (by decide +kernel) rfl ?_
    refine zG_ald (v := zi (h.1 340 (22 + v2).toNatClampNeg)) (n := 44) rfl (by decide +kernel) rfl rfl fun hb3 => ?_
    refine zG_run t_Mod [(.iconst 1, 0, 0), (.ior, 0, 0)] (62, [some (zr (some (11, 333))), none, some (zi v2)], [zi ((h.1 340 (22 + v2).toNatClampNeg) ||| 1), zi (22 + v2), zr (some (66, 340))], h) (by decide +kernel) rfl ?_
    refine zG_guard fun hb5 => ?_
    refine zG_bind (fun y => (63, [some (zr (some (11, 333))), none, some (zi v2)], [], y)) (zG_astc (h' := zsI h 340 (22 + v2).toNatClampNeg ((h.1 340 (22 + v2).toNatClampNeg) ||| 1)) rfl (by decide +kernel) hb5 rfl (zG_end (L' := [some (zr (some (11, 333))), none, some (zi v2)]) rfl (And.intro rfl (And.intro rfl trivial)))) fun h4 => ?_
    refine zG_run t_Mod [(.aload_n 0, 0, 0)] (64, [some (zr (some (11, 333))), none, some (zi v2)], [zr (some (11, 333))], h4) (by decide +kernel) rfl ?_
    refine zG_callV (idx := 241) (R := (fun a => (none, a))) (as := []) (rest := []) (n := 0) (fun a ha => c_Mod_stepOn hl ha) (by decide +kernel) ⟨ok_Mod_stepOn, by decide, by decide +kernel⟩ rfl w_388 w_389 w_390 (by decide) rfl rfl rfl (Nat.le_of_ble_eq_true rfl) fun x6 => ?_
    refine zG_run t_Mod [(.aload_n 0, 0, 0), (.getfield 200, 11, 20), (.iconst 1, 0, 0)] (72, [some (zr (some (11, 333))), none, some (zi v2)], [zi 1, zi (x6.1 333 20)], x6) (by decide +kernel) rfl ?_
    refine zG_icmp (op := .ne) (off := 7) (tgt := 79) (by decide +kernel) rfl Iff.rfl (fun c7 => ?_) (fun c7 => ?_)
    · refine zG_run t_Mod [(.iconst 0, 0, 0)] (80, [some (zr (some (11, 333))), none, some (zi v2)], [zi 0], x6) (by decide +kernel) rfl ?_
      exact zG_forget (L' := [some (zr (some (11, 333))), none, none]) (And.intro rfl trivial) (k_Mod_readSeen_j80 hl)
    · refine zG_run t_Mod [(.iconst 1, 0, 0), (.goto 4, 0, 0)] (80, [some (zr (some (11, 333))), none, some (zi v2)], [zi 1], x6) (by decide +kernel) rfl ?_
      exact zG_forget (L' := [some (zr (some (11, 333))), none, none]) (And.intro rfl trivial) (k_Mod_readSeen_j80 hl)
  · exact zG_end (L' := [none, none, none]) rfl (trivial)
set_option maxRecDepth 20000 in
theorem k_Mod_readSeen_b6 {l : Launch} {X : zX} (hl : l.stackTraces = false) {h : zH} {v1 : Int32} : zGl l m_Mod_readSeen X 0 0 (f_Mod_readSeen_b6 h v1) (6, [some (zr (some (11, 333))), some (zi v1), none], [], h) (Sum.elim (fun s : Int32 × zH => .inl (6, [some (zr (some (11, 333))), some (zi s.1), none], [], s.2)) (Sum.elim (fun y : zH => .inl (49, [none, none, none], [], y)) (fun y : zH => .inl (84, [none, none, none], [], y)))) := by
  unfold f_Mod_readSeen_b6
  refine zG_run t_Mod [(.iload_n 1, 0, 0)] (7, [some (zr (some (11, 333))), some (zi v1), none], [zi v1], h) (by decide +kernel) rfl ?_
  refine zG_if (op := .eq) (off := 77) (tgt := 84) (by decide +kernel) rfl Iff.rfl (fun c13 => ?_) (fun c13 => ?_)
  · exact zG_end (L' := [none, none, none]) rfl (trivial)
  · refine zG_run t_Mod [(.aload_n 0, 0, 0)] (11, [some (zr (some (11, 333))), some (zi v1), none], [zr (some (11, 333))], h) (by decide +kernel) rfl ?_
    refine zG_callV (idx := 258) (R := (fun a => (some (zi a.1), a.2))) (as := []) (rest := []) (n := 0) (fun a ha => c_Mod_lineNow hl ha) (by decide +kernel) ⟨ok_Mod_lineNow, by decide, by decide +kernel⟩ rfl w_420 w_421 w_422 (by decide) rfl rfl rfl (Nat.le_of_ble_eq_true rfl) fun x2 => ?_
    refine zG_run t_Mod [(.istore_n 2, 0, 0), (.aload_n 0, 0, 0), (.getfield 216, 11, 24)] (19, [some (zr (some (11, 333))), some (zi v1), some (zi x2.1)], [zi (x2.2.1 333 24)], x2.2) (by decide +kernel) rfl ?_
    refine zG_if (op := .ne) (off := 23) (tgt := 42) (by decide +kernel) rfl Iff.rfl (fun c12 => ?_) (fun c12 => ?_)
    · exact zG_forget (L' := [some (zr (some (11, 333))), none, some (zi x2.1)]) (And.intro rfl (And.intro rfl trivial)) (k_Mod_readSeen_j42 hl)
    · refine zG_run t_Mod [(.aload_n 0, 0, 0), (.getfield 53, 11, 7), (.bipush 22, 0, 0), (.iload_n 2, 0, 0), (.iadd, 0, 0)] (30, [some (zr (some (11, 333))), some (zi v1), some (zi x2.1)], [zi (22 + x2.1), zr (some (66, 340))], x2.2) (by decide +kernel) rfl ?_
      refine zG_ald (v := zi (x2.2.1 340 (22 + x2.1).toNatClampNeg)) (n := 44) rfl (by decide +kernel) rfl rfl fun hb9 => ?_
      refine zG_run t_Mod [(.iconst 2, 0, 0)] (32, [some (zr (some (11, 333))), some (zi v1), some (zi x2.1)], [zi 2, zi (x2.2.1 340 (22 + x2.1).toNatClampNeg)], x2.2) (by decide +kernel) rfl ?_
      refine zG_iremc (by decide +kernel) (by decide) ?_
      refine zG_run t_Mod [(.iconst 1, 0, 0)] (34, [some (zr (some (11, 333))), some (zi v1), some (zi x2.1)], [zi 1, zi (zrem (x2.2.1 340 (22 + x2.1).toNatClampNeg) 2)], x2.2) (by decide +kernel) rfl ?_
      refine zG_icmp (op := .ne) (off := 8) (tgt := 42) (by decide +kernel) rfl Iff.rfl (fun c11 => ?_) (fun c11 => ?_)
      · exact zG_forget (L' := [some (zr (some (11, 333))), none, some (zi x2.1)]) (And.intro rfl (And.intro rfl trivial)) (k_Mod_readSeen_j42 hl)
      · refine zG_run t_Mod [(.aload_n 0, 0, 0), (.iconst 5, 0, 0)] (39, [some (zr (some (11, 333))), some (zi v1), some (zi x2.1)], [zi 5, zr (some (11, 333))], x2.2) (by decide +kernel) rfl ?_
        refine zG_callV (idx := 237) (R := (fun a => (none, a))) (as := [zi 5]) (rest := []) (n := 1) (fun a ha => c_Mod_wrong hl ha) (by decide +kernel) ⟨ok_Mod_wrong, by decide, by decide +kernel⟩ rfl w_396 w_397 w_398 (by decide) rfl rfl rfl (Nat.le_of_ble_eq_true rfl) fun x10 => ?_
        exact zG_forget (L' := [some (zr (some (11, 333))), none, some (zi x2.1)]) (And.intro rfl (And.intro rfl trivial)) (k_Mod_readSeen_j42 hl)
set_option maxRecDepth 20000 in
theorem k_Mod_readSeen {l : Launch} {X : zX} (hl : l.stackTraces = false) {h : zH} : zGl l m_Mod_readSeen X 0 0 (f_Mod_readSeen h) (0, [some (zr (some (11, 333))), none, none], [], h) (fun x => .inr ((fun a => (.inl none, a) : zH → zF) x)) := by
  unfold f_Mod_readSeen
  refine zG_run t_Mod [(.aload_n 0, 0, 0)] (1, [some (zr (some (11, 333))), none, none], [zr (some (11, 333))], h) (by decide +kernel) rfl ?_
  refine zG_callV (idx := 241) (R := (fun a => (none, a))) (as := []) (rest := []) (n := 0) (fun a ha => c_Mod_stepOn hl ha) (by decide +kernel) ⟨ok_Mod_stepOn, by decide, by decide +kernel⟩ rfl w_388 w_389 w_390 (by decide) rfl rfl rfl (Nat.le_of_ble_eq_true rfl) fun x1 => ?_
  refine zG_run t_Mod [(.iconst 1, 0, 0), (.istore_n 1, 0, 0)] (6, [some (zr (some (11, 333))), some (zi 1), none], [], x1) (by decide +kernel) rfl ?_
  refine zG_forget (L' := [some (zr (some (11, 333))), some (zi 1), none]) (And.intro rfl (And.intro rfl trivial)) ?_
  refine zG_bind2 (fun y : zH => (49, [none, none, none], [], y)) (fun y : zH => (84, [none, none, none], [], y)) (zG_iter (fun s : Int32 × zH => (6, [some (zr (some (11, 333))), some (zi s.1), none], [], s.2)) fun s => k_Mod_readSeen_b6 hl) (fun y15 => ?_) (fun y16 => ?_)
  · exact zG_ret (r := none) rfl (zrd_v rfl (by decide +kernel))
  · exact zG_ret (r := none) rfl (zrd_v rfl (by decide +kernel))
theorem c_Mod_readSeen {l : Launch} {X : zX} (hl : l.stackTraces = false) {h : zH} {x : zH} (hx : f_Mod_readSeen h = some x) : zCt l (true, 2) 2 m_Mod_readSeen X 0 0 [zr (some (11, 333))] h ((fun a => (.inl none, a) : zH → zF) x) :=
  zG_ct (R := fun a => (.inl none, a)) (x := x) ok_Mod_readSeen hl (Nat.le_of_ble_eq_true rfl) hx (k_Mod_readSeen hl)
def m_Mod_readInputs : zM := (({ cls := "ScanPackerModel", name := "readInputs", desc := "()V" } : Jvm.MethodName), prog_13_method_23_code, 3, (Option.none : Option Jvm.ClassFile.FieldType), [], 9)
theorem ok_Mod_readInputs : zMok m_Mod_readInputs := ⟨by decide +kernel, zW_of 1724 (by decide +kernel) (by decide +kernel), zW_of 134 (by decide +kernel) (by decide +kernel), by decide, by decide +kernel, by decide +kernel⟩
set_option maxRecDepth 20000 in
theorem k_Mod_readInputs_j138 {l : Launch} {X : zX} (hl : l.stackTraces = false) {h : zH} {t0 : Int32} : zGl l m_Mod_readInputs X 0 0 (f_Mod_readInputs_j138 h t0) (138, [some (zr (some (11, 333))), none, none], [zi t0], h) (Sum.elim (fun s : Int32 × zH => .inl (29, [some (zr (some (11, 333))), some (zi s.1), none], [], s.2)) (Sum.elim (fun y : zH => .inl (74, [none, none, none], [], y)) (fun y : zH => .inl (142, [none, none, none], [], y)))) := by
  unfold f_Mod_readInputs_j138
  refine zG_run t_Mod [(.istore_n 1, 0, 0), (.goto (-110), 0, 0)] (29, [some (zr (some (11, 333))), some (zi t0), none], [], h) (by decide +kernel) rfl ?_
  exact zG_end (L' := [some (zr (some (11, 333))), some (zi t0), none]) rfl (And.intro rfl (And.intro rfl trivial))
set_option maxRecDepth 20000 in
theorem k_Mod_readInputs_j56 {l : Launch} {X : zX} (hl : l.stackTraces = false) {h : zH} : zGl l m_Mod_readInputs X 0 0 (f_Mod_readInputs_j56 h) (56, [some (zr (some (11, 333))), none, none], [], h) (Sum.elim (fun s : Int32 × zH => .inl (29, [some (zr (some (11, 333))), some (zi s.1), none], [], s.2)) (Sum.elim (fun y : zH => .inl (74, [none, none, none], [], y)) (fun y : zH => .inl (142, [none, none, none], [], y)))) := by
  unfold f_Mod_readInputs_j56
  refine zG_run t_Mod [(.aload_n 0, 0, 0), (.getfield 40, 11, 3), (.iconst 5, 0, 0)] (61, [some (zr (some (11, 333))), none, none], [zi 5, zr (some (62, 336))], h) (by decide +kernel) rfl ?_
  refine zG_aldc (v := zi (h.1 336 5)) rfl (by decide +kernel) (by decide +kernel) rfl ?_
  refine zG_run t_Mod [(.istore_n 2, 0, 0), (.aload_n 0, 0, 0)] (64, [some (zr (some (11, 333))), none, some (zi (h.1 336 5))], [zr (some (11, 333))], h) (by decide +kernel) rfl ?_
  refine zG_callV (idx := 261) (R := (fun a => (none, a))) (as := []) (rest := []) (n := 0) (fun a ha => c_Mod_takeName hl ha) (by decide +kernel) ⟨ok_Mod_takeName, by decide, by decide +kernel⟩ rfl w_411 w_412 w_413 (by decide) rfl rfl rfl (Nat.le_of_ble_eq_true rfl) fun x3 => ?_
  refine zG_run t_Mod [(.aload_n 0, 0, 0), (.getfield 216, 11, 24)] (71, [some (zr (some (11, 333))), none, some (zi (h.1 336 5))], [zi (x3.1 333 24)], x3) (by decide +kernel) rfl ?_
  refine zG_if (op := .eq) (off := 4) (tgt := 75) (by decide +kernel) rfl Iff.rfl (fun c14 => ?_) (fun c14 => ?_)
  · refine zG_run t_Mod [(.aload_n 0, 0, 0), (.getfield 44, 11, 4), (.bipush 22, 0, 0), (.iload_n 2, 0, 0), (.iadd, 0, 0), (.iconst (-1), 0, 0)] (84, [some (zr (some (11, 333))), none, some (zi (h.1 336 5))], [zi (-1), zi (22 + (h.1 336 5)), zr (some (63, 337))], x3) (by decide +kernel) rfl ?_
    refine zG_guard fun hb5 => ?_
    refine zG_bind (fun y => (85, [some (zr (some (11, 333))), none, some (zi (h.1 336 5))], [], y)) (zG_astc (h' := zsI x3 337 (22 + (h.1 336 5)).toNatClampNeg (-1)) rfl (by decide +kernel) hb5 rfl (zG_end (L' := [some (zr (some (11, 333))), none, some (zi (h.1 336 5))]) rfl (And.intro rfl (And.intro rfl trivial)))) fun h4 => ?_
    refine zG_run t_Mod [(.aload_n 0, 0, 0), (.getfield 47, 11, 5), (.bipush 22, 0, 0), (.iload_n 2, 0, 0), (.iadd, 0, 0), (.iconst 0, 0, 0)] (94, [some (zr (some (11, 333))), none, some (zi (h.1 336 5))], [zi 0, zi (22 + (h.1 336 5)), zr (some (64, 338))], h4) (by decide +kernel) rfl ?_
    refine zG_guard fun hb7 => ?_
    refine zG_bind (fun y => (95, [some (zr (some (11, 333))), none, some (zi (h.1 336 5))], [], y)) (zG_astc (h' := zsI h4 338 (22 + (h.1 336 5)).toNatClampNeg 0) rfl (by decide +kernel) hb7 rfl (zG_end (L' := [some (zr (some (11, 333))), none, some (zi (h.1 336 5))]) rfl (And.intro rfl (And.intro rfl trivial)))) fun h6 => ?_
    refine zG_run t_Mod [(.aload_n 0, 0, 0), (.getfield 56, 11, 8), (.bipush 6, 0, 0), (.iload_n 2, 0, 0), (.iadd, 0, 0), (.iconst (-1), 0, 0)] (104, [some (zr (some (11, 333))), none, some (zi (h.1 336 5))], [zi (-1), zi (6 + (h.1 336 5)), zr (some (67, 341))], h6) (by decide +kernel) rfl ?_
    refine zG_guard fun hb9 => ?_
    refine zG_bind (fun y => (105, [some (zr (some (11, 333))), none, some (zi (h.1 336 5))], [], y)) (zG_astc (h' := zsI h6 341 (6 + (h.1 336 5)).toNatClampNeg (-1)) rfl (by decide +kernel) hb9 rfl (zG_end (L' := [some (zr (some (11, 333))), none, some (zi (h.1 336 5))]) rfl (And.intro rfl (And.intro rfl trivial)))) fun h8 => ?_
    refine zG_run t_Mod [(.aload_n 0, 0, 0), (.getfield 59, 11, 9), (.bipush 6, 0, 0), (.iload_n 2, 0, 0), (.iadd, 0, 0), (.iconst (-1), 0, 0)] (114, [some (zr (some (11, 333))), none, some (zi (h.1 336 5))], [zi (-1), zi (6 + (h.1 336 5)), zr (some (68, 342))], h8) (by decide +kernel) rfl ?_
    refine zG_guard fun hb11 => ?_
    refine zG_bind (fun y => (115, [some (zr (some (11, 333))), none, some (zi (h.1 336 5))], [], y)) (zG_astc (h' := zsI h8 342 (6 + (h.1 336 5)).toNatClampNeg (-1)) rfl (by decide +kernel) hb11 rfl (zG_end (L' := [some (zr (some (11, 333))), none, some (zi (h.1 336 5))]) rfl (And.intro rfl (And.intro rfl trivial)))) fun h10 => ?_
    refine zG_run t_Mod [(.aload_n 0, 0, 0), (.getfield 40, 11, 3), (.iconst 5, 0, 0), (.dup2, 0, 0)] (121, [some (zr (some (11, 333))), none, some (zi (h.1 336 5))], [zi 5, zr (some (62, 336)), zi 5, zr (some (62, 336))], h10) (by decide +kernel) rfl ?_
    refine zG_aldc (v := zi (h10.1 336 5)) rfl (by decide +kernel) (by decide +kernel) rfl ?_
    refine zG_run t_Mod [(.iconst 1, 0, 0), (.iadd, 0, 0)] (124, [some (zr (some (11, 333))), none, some (zi (h.1 336 5))], [zi ((h10.1 336 5) + 1), zi 5, zr (some (62, 336))], h10) (by decide +kernel) rfl ?_
    refine zG_bind (fun y => (125, [some (zr (some (11, 333))), none, some (zi (h.1 336 5))], [], y)) (zG_astc (h' := zsI h10 336 5 ((h10.1 336 5) + 1)) rfl (by decide +kernel) (by decide +kernel) rfl (zG_end (L' := [some (zr (some (11, 333))), none, some (zi (h.1 336 5))]) rfl (And.intro rfl (And.intro rfl trivial)))) fun h12 => ?_
    refine zG_run t_Mod [(.aload_n 0, 0, 0), (.getfield 200, 11, 20), (.iconst 1, 0, 0)] (130, [some (zr (some (11, 333))), none, some (zi (h.1 336 5))], [zi 1, zi (h12.1 333 20)], h12) (by decide +kernel) rfl ?_
    refine zG_icmp (op := .ne) (off := 7) (tgt := 137) (by decide +kernel) rfl Iff.rfl (fun c13 => ?_) (fun c13 => ?_)
    · refine zG_run t_Mod [(.iconst 0, 0, 0)] (138, [some (zr (some (11, 333))), none, some (zi (h.1 336 5))], [zi 0], h12) (by decide +kernel) rfl ?_
      exact zG_forget (L' := [some (zr (some (11, 333))), none, none]) (And.intro rfl trivial) (k_Mod_readInputs_j138 hl)
    · refine zG_run t_Mod [(.iconst 1, 0, 0), (.goto 4, 0, 0)] (138, [some (zr (some (11, 333))), none, some (zi (h.1 336 5))], [zi 1], h12) (by decide +kernel) rfl ?_
      exact zG_forget (L' := [some (zr (some (11, 333))), none, none]) (And.intro rfl trivial) (k_Mod_readInputs_j138 hl)
  · exact zG_end (L' := [none, none, none]) rfl (trivial)
set_option maxRecDepth 20000 in
theorem k_Mod_readInputs_b29 {l : Launch} {X : zX} (hl : l.stackTraces = false) {h : zH} {v1 : Int32} : zGl l m_Mod_readInputs X 0 0 (f_Mod_readInputs_b29 h v1) (29, [some (zr (some (11, 333))), some (zi v1), none], [], h) (Sum.elim (fun s : Int32 × zH => .inl (29, [some (zr (some (11, 333))), some (zi s.1), none], [], s.2)) (Sum.elim (fun y : zH => .inl (74, [none, none, none], [], y)) (fun y : zH => .inl (142, [none, none, none], [], y)))) := by
  unfold f_Mod_readInputs_b29
  refine zG_run t_Mod [(.iload_n 1, 0, 0)] (30, [some (zr (some (11, 333))), some (zi v1), none], [zi v1], h) (by decide +kernel) rfl ?_
  refine zG_if (op := .eq) (off := 112) (tgt := 142) (by decide +kernel) rfl Iff.rfl (fun c18 => ?_) (fun c18 => ?_)
  · exact zG_end (L' := [none, none, none]) rfl (trivial)
  · refine zG_run t_Mod [(.aload_n 0, 0, 0)] (34, [some (zr (some (11, 333))), some (zi v1), none], [zr (some (11, 333))], h) (by decide +kernel) rfl ?_
    refine zG_callV (idx := 254) (R := (fun a => (some (zi a.1), a.2))) (as := []) (rest := []) (n := 0) (fun a ha => c_Mod_wordHere hl ha) (by decide +kernel) ⟨ok_Mod_wordHere, by decide, by decide +kernel⟩ rfl w_402 w_403 w_404 (by decide) rfl rfl rfl (Nat.le_of_ble_eq_true rfl) fun x2 => ?_
    refine zG_if (op := .eq) (off := 19) (tgt := 56) (by decide +kernel) rfl Iff.rfl (fun c17 => ?_) (fun c17 => ?_)
    · exact zG_forget (L' := [some (zr (some (11, 333))), none, none]) (And.intro rfl trivial) (k_Mod_readInputs_j56 hl)
    · refine zG_run t_Mod [(.aload_n 0, 0, 0), (.getfield 40, 11, 3), (.iconst 5, 0, 0)] (45, [some (zr (some (11, 333))), some (zi v1), none], [zi 5, zr (some (62, 336))], x2.2) (by decide +kernel) rfl ?_
      refine zG_aldc (v := zi (x2.2.1 336 5)) rfl (by decide +kernel) (by decide +kernel) rfl ?_
      refine zG_run t_Mod [(.bipush 6, 0, 0)] (48, [some (zr (some (11, 333))), some (zi v1), none], [zi 6, zi (x2.2.1 336 5)], x2.2) (by decide +kernel) rfl ?_
      refine zG_icmp (op := .ne) (off := 8) (tgt := 56) (by decide +kernel) rfl Iff.rfl (fun c16 => ?_) (fun c16 => ?_)
      · exact zG_forget (L' := [some (zr (some (11, 333))), none, none]) (And.intro rfl trivial) (k_Mod_readInputs_j56 hl)
      · refine zG_run t_Mod [(.aload_n 0, 0, 0), (.iconst 2, 0, 0)] (53, [some (zr (some (11, 333))), some (zi v1), none], [zi 2, zr (some (11, 333))], x2.2) (by decide +kernel) rfl ?_
        refine zG_callV (idx := 237) (R := (fun a => (none, a))) (as := [zi 2]) (rest := []) (n := 1) (fun a ha => c_Mod_wrong hl ha) (by decide +kernel) ⟨ok_Mod_wrong, by decide, by decide +kernel⟩ rfl w_396 w_397 w_398 (by decide) rfl rfl rfl (Nat.le_of_ble_eq_true rfl) fun x15 => ?_
        exact zG_forget (L' := [some (zr (some (11, 333))), none, none]) (And.intro rfl trivial) (k_Mod_readInputs_j56 hl)
set_option maxRecDepth 20000 in
theorem k_Mod_readInputs_j15 {l : Launch} {X : zX} (hl : l.stackTraces = false) {h : zH} : zGl l m_Mod_readInputs X 0 0 (f_Mod_readInputs_j15 h) (15, [some (zr (some (11, 333))), none, none], [], h) (fun x => .inr ((fun a => (.inl none, a) : zH → zF) x)) := by
  unfold f_Mod_readInputs_j15
  refine zG_run t_Mod [(.aload_n 0, 0, 0), (.getfield 216, 11, 24)] (19, [some (zr (some (11, 333))), none, none], [zi (h.1 333 24)], h) (by decide +kernel) rfl ?_
  refine zG_if (op := .eq) (off := 4) (tgt := 23) (by decide +kernel) rfl Iff.rfl (fun c22 => ?_) (fun c22 => ?_)
  · refine zG_run t_Mod [(.aload_n 0, 0, 0)] (24, [some (zr (some (11, 333))), none, none], [zr (some (11, 333))], h) (by decide +kernel) rfl ?_
    refine zG_callV (idx := 241) (R := (fun a => (none, a))) (as := []) (rest := []) (n := 0) (fun a ha => c_Mod_stepOn hl ha) (by decide +kernel) ⟨ok_Mod_stepOn, by decide, by decide +kernel⟩ rfl w_388 w_389 w_390 (by decide) rfl rfl rfl (Nat.le_of_ble_eq_true rfl) fun x1 => ?_
    refine zG_run t_Mod [(.iconst 1, 0, 0), (.istore_n 1, 0, 0)] (29, [some (zr (some (11, 333))), some (zi 1), none], [], x1) (by decide +kernel) rfl ?_
    refine zG_forget (L' := [some (zr (some (11, 333))), some (zi 1), none]) (And.intro rfl (And.intro rfl trivial)) ?_
    refine zG_bind2 (fun y : zH => (74, [none, none, none], [], y)) (fun y : zH => (142, [none, none, none], [], y)) (zG_iter (fun s : Int32 × zH => (29, [some (zr (some (11, 333))), some (zi s.1), none], [], s.2)) fun s => k_Mod_readInputs_b29 hl) (fun y20 => ?_) (fun y21 => ?_)
    · exact zG_ret (r := none) rfl (zrd_v rfl (by decide +kernel))
    · exact zG_ret (r := none) rfl (zrd_v rfl (by decide +kernel))
  · exact zG_ret (r := none) rfl (zrd_v rfl (by decide +kernel))
set_option maxRecDepth 20000 in
theorem k_Mod_readInputs {l : Launch} {X : zX} (hl : l.stackTraces = false) {h : zH} : zGl l m_Mod_readInputs X 0 0 (f_Mod_readInputs h) (0, [some (zr (some (11, 333))), none, none], [], h) (fun x => .inr ((fun a => (.inl none, a) : zH → zF) x)) := by
  unfold f_Mod_readInputs
  refine zG_run t_Mod [(.aload_n 0, 0, 0), (.getfield 40, 11, 3), (.bipush 6, 0, 0)] (6, [some (zr (some (11, 333))), none, none], [zi 6, zr (some (62, 336))], h) (by decide +kernel) rfl ?_
  refine zG_aldc (v := zi (h.1 336 6)) rfl (by decide +kernel) (by decide +kernel) rfl ?_
  refine zG_if (op := .le) (off := 8) (tgt := 15) (by decide +kernel) rfl Iff.rfl (fun c24 => ?_) (fun c24 => ?_)
  · exact zG_forget (L' := [some (zr (some (11, 333))), none, none]) (And.intro rfl trivial) (k_Mod_readInputs_j15 hl)
  · refine zG_run t_Mod [(.aload_n 0, 0, 0), (.iconst 1, 0, 0)] (12, [some (zr (some (11, 333))), none, none], [zi 1, zr (some (11, 333))], h) (by decide +kernel) rfl ?_
    refine zG_callV (idx := 237) (R := (fun a => (none, a))) (as := [zi 1]) (rest := []) (n := 1) (fun a ha => c_Mod_wrong hl ha) (by decide +kernel) ⟨ok_Mod_wrong, by decide, by decide +kernel⟩ rfl w_396 w_397 w_398 (by decide) rfl rfl rfl (Nat.le_of_ble_eq_true rfl) fun x23 => ?_
    exact zG_forget (L' := [some (zr (some (11, 333))), none, none]) (And.intro rfl trivial) (k_Mod_readInputs_j15 hl)
theorem c_Mod_readInputs {l : Launch} {X : zX} (hl : l.stackTraces = false) {h : zH} {x : zH} (hx : f_Mod_readInputs h = some x) : zCt l (true, 2) 2 m_Mod_readInputs X 0 0 [zr (some (11, 333))] h ((fun a => (.inl none, a) : zH → zF) x) :=
  zG_ct (R := fun a => (.inl none, a)) (x := x) ok_Mod_readInputs hl (Nat.le_of_ble_eq_true rfl) hx (k_Mod_readInputs hl)
def m_Mod_readClause : zM := (({ cls := "ScanPackerModel", name := "readClause", desc := "()V" } : Jvm.MethodName), prog_13_method_29_code, 1, (Option.none : Option Jvm.ClassFile.FieldType), [], 12)
theorem ok_Mod_readClause : zMok m_Mod_readClause := ⟨by decide +kernel, zW_of 1664 (by decide +kernel) (by decide +kernel), zW_of 134 (by decide +kernel) (by decide +kernel), by decide, by decide +kernel, by decide +kernel⟩
set_option maxRecDepth 20000 in
theorem k_Mod_readClause_j97 {l : Launch} {X : zX} (hl : l.stackTraces = false) {h : zH} : zGl l m_Mod_readClause X 0 0 (f_Mod_readClause_j97 h) (97, [some (zr (some (11, 333)))], [], h) (fun x => .inr ((fun a => (.inl none, a) : zH → zF) x)) := by
  unfold f_Mod_readClause_j97
  refine zG_run t_Mod [(.aload_n 0, 0, 0), (.bipush 59, 0, 0)] (100, [some (zr (some (11, 333)))], [zi 59, zr (some (11, 333))], h) (by decide +kernel) rfl ?_
  refine zG_callV (idx := 264) (R := (fun a => (none, a))) (as := [zi 59]) (rest := []) (n := 1) (fun a ha => c_Mod_mark hl ha) (by decide +kernel) ⟨ok_Mod_mark, by decide, by decide +kernel⟩ rfl w_417 w_418 w_419 (by decide) rfl rfl rfl (Nat.le_of_ble_eq_true rfl) fun x7 => ?_
  exact zG_ret (r := none) rfl (zrd_v rfl (by decide +kernel))
set_option maxRecDepth 20000 in
theorem k_Mod_readClause_j13 {l : Launch} {X : zX} (hl : l.stackTraces = false) {h : zH} : zGl l m_Mod_readClause X 0 0 (f_Mod_readClause_j13 h) (13, [some (zr (some (11, 333)))], [], h) (fun x => .inr ((fun a => (.inl none, a) : zH → zF) x)) := by
  unfold f_Mod_readClause_j13
  refine zG_run t_Mod [(.aload_n 0, 0, 0)] (14, [some (zr (some (11, 333)))], [zr (some (11, 333))], h) (by decide +kernel) rfl ?_
  refine zG_ldS (i := 6) rfl (by decide) rfl (by decide +kernel) ?_
  refine zG_callV (idx := 230) (R := (fun a => (some (zi a), h))) (as := [zr (some (202, 1000016))]) (rest := []) (n := 1) (fun a ha => c_Mod_is hl ha) (by decide +kernel) ⟨ok_Mod_is, by decide, by decide +kernel⟩ rfl w_393 w_394 w_395 (by decide) rfl rfl rfl (Nat.le_of_ble_eq_true rfl) fun x1 => ?_
  refine zG_if (op := .eq) (off := 10) (tgt := 29) (by decide +kernel) rfl Iff.rfl (fun c17 => ?_) (fun c17 => ?_)
  · refine zG_run t_Mod [(.aload_n 0, 0, 0)] (30, [some (zr (some (11, 333)))], [zr (some (11, 333))], h) (by decide +kernel) rfl ?_
    refine zG_ldS (i := 7) rfl (by decide) rfl (by decide +kernel) ?_
    refine zG_callV (idx := 230) (R := (fun a => (some (zi a), h))) (as := [zr (some (202, 1000017))]) (rest := []) (n := 1) (fun a ha => c_Mod_is hl ha) (by decide +kernel) ⟨ok_Mod_is, by decide, by decide +kernel⟩ rfl w_393 w_394 w_395 (by decide) rfl rfl rfl (Nat.le_of_ble_eq_true rfl) fun x2 => ?_
    refine zG_if (op := .eq) (off := 10) (tgt := 45) (by decide +kernel) rfl Iff.rfl (fun c15 => ?_) (fun c15 => ?_)
    · refine zG_run t_Mod [(.aload_n 0, 0, 0)] (46, [some (zr (some (11, 333)))], [zr (some (11, 333))], h) (by decide +kernel) rfl ?_
      refine zG_ldS (i := 8) rfl (by decide) rfl (by decide +kernel) ?_
      refine zG_callV (idx := 230) (R := (fun a => (some (zi a), h))) (as := [zr (some (202, 1000018))]) (rest := []) (n := 1) (fun a ha => c_Mod_is hl ha) (by decide +kernel) ⟨ok_Mod_is, by decide, by decide +kernel⟩ rfl w_393 w_394 w_395 (by decide) rfl rfl rfl (Nat.le_of_ble_eq_true rfl) fun x3 => ?_
      refine zG_if (op := .eq) (off := 10) (tgt := 61) (by decide +kernel) rfl Iff.rfl (fun c13 => ?_) (fun c13 => ?_)
      · refine zG_run t_Mod [(.aload_n 0, 0, 0)] (62, [some (zr (some (11, 333)))], [zr (some (11, 333))], h) (by decide +kernel) rfl ?_
        refine zG_ldS (i := 9) rfl (by decide) rfl (by decide +kernel) ?_
        refine zG_callV (idx := 230) (R := (fun a => (some (zi a), h))) (as := [zr (some (202, 1000019))]) (rest := []) (n := 1) (fun a ha => c_Mod_is hl ha) (by decide +kernel) ⟨ok_Mod_is, by decide, by decide +kernel⟩ rfl w_393 w_394 w_395 (by decide) rfl rfl rfl (Nat.le_of_ble_eq_true rfl) fun x4 => ?_
        refine zG_if (op := .eq) (off := 10) (tgt := 77) (by decide +kernel) rfl Iff.rfl (fun c11 => ?_) (fun c11 => ?_)
        · refine zG_run t_Mod [(.aload_n 0, 0, 0)] (78, [some (zr (some (11, 333)))], [zr (some (11, 333))], h) (by decide +kernel) rfl ?_
          refine zG_ldS (i := 10) rfl (by decide) rfl (by decide +kernel) ?_
          refine zG_callV (idx := 230) (R := (fun a => (some (zi a), h))) (as := [zr (some (202, 1000020))]) (rest := []) (n := 1) (fun a ha => c_Mod_is hl ha) (by decide +kernel) ⟨ok_Mod_is, by decide, by decide +kernel⟩ rfl w_393 w_394 w_395 (by decide) rfl rfl rfl (Nat.le_of_ble_eq_true rfl) fun x5 => ?_
          refine zG_if (op := .eq) (off := 10) (tgt := 93) (by decide +kernel) rfl Iff.rfl (fun c9 => ?_) (fun c9 => ?_)
          · refine zG_run t_Mod [(.aload_n 0, 0, 0)] (94, [some (zr (some (11, 333)))], [zr (some (11, 333))], h) (by decide +kernel) rfl ?_
            refine zG_callV (idx := 285) (R := (fun a => (none, a))) (as := []) (rest := []) (n := 0) (fun a ha => c_Mod_readGate hl ha) (by decide +kernel) ⟨ok_Mod_readGate, by decide, by decide +kernel⟩ rfl w_423 w_424 w_425 (by decide) rfl rfl rfl (Nat.le_of_ble_eq_true rfl) fun x6 => ?_
            exact zG_forget (L' := [some (zr (some (11, 333)))]) (And.intro rfl trivial) (k_Mod_readClause_j97 hl)
          · refine zG_run t_Mod [(.aload_n 0, 0, 0)] (87, [some (zr (some (11, 333)))], [zr (some (11, 333))], h) (by decide +kernel) rfl ?_
            refine zG_callV (idx := 282) (R := (fun a => (none, a))) (as := []) (rest := []) (n := 0) (fun a ha => c_Mod_readFill hl ha) (by decide +kernel) ⟨ok_Mod_readFill, by decide, by decide +kernel⟩ rfl w_426 w_427 w_428 (by decide) rfl rfl rfl (Nat.le_of_ble_eq_true rfl) fun x8 => ?_
            refine zG_run t_Mod [(.goto 7, 0, 0)] (97, [some (zr (some (11, 333)))], [], x8) (by decide +kernel) rfl ?_
            exact zG_forget (L' := [some (zr (some (11, 333)))]) (And.intro rfl trivial) (k_Mod_readClause_j97 hl)
        · refine zG_run t_Mod [(.aload_n 0, 0, 0)] (71, [some (zr (some (11, 333)))], [zr (some (11, 333))], h) (by decide +kernel) rfl ?_
          refine zG_callV (idx := 279) (R := (fun a => (none, a))) (as := []) (rest := []) (n := 0) (fun a ha => c_Mod_readTake hl ha) (by decide +kernel) ⟨ok_Mod_readTake, by decide, by decide +kernel⟩ rfl w_432 w_433 w_434 (by decide) rfl rfl rfl (Nat.le_of_ble_eq_true rfl) fun x10 => ?_
          refine zG_run t_Mod [(.goto 23, 0, 0)] (97, [some (zr (some (11, 333)))], [], x10) (by decide +kernel) rfl ?_
          exact zG_forget (L' := [some (zr (some (11, 333)))]) (And.intro rfl trivial) (k_Mod_readClause_j97 hl)
      · refine zG_run t_Mod [(.aload_n 0, 0, 0)] (55, [some (zr (some (11, 333)))], [zr (some (11, 333))], h) (by decide +kernel) rfl ?_
        refine zG_callV (idx := 276) (R := (fun a => (none, a))) (as := []) (rest := []) (n := 0) (fun a ha => c_Mod_readChain hl ha) (by decide +kernel) ⟨ok_Mod_readChain, by decide, by decide +kernel⟩ rfl w_435 w_436 w_437 (by decide) rfl rfl rfl (Nat.le_of_ble_eq_true rfl) fun x12 => ?_
        refine zG_run t_Mod [(.goto 39, 0, 0)] (97, [some (zr (some (11, 333)))], [], x12) (by decide +kernel) rfl ?_
        exact zG_forget (L' := [some (zr (some (11, 333)))]) (And.intro rfl trivial) (k_Mod_readClause_j97 hl)
    · refine zG_run t_Mod [(.aload_n 0, 0, 0)] (39, [some (zr (some (11, 333)))], [zr (some (11, 333))], h) (by decide +kernel) rfl ?_
      refine zG_callV (idx := 273) (R := (fun a => (none, a))) (as := []) (rest := []) (n := 0) (fun a ha => c_Mod_readSeen hl ha) (by decide +kernel) ⟨ok_Mod_readSeen, by decide, by decide +kernel⟩ rfl w_438 w_439 w_440 (by decide) rfl rfl rfl (Nat.le_of_ble_eq_true rfl) fun x14 => ?_
      refine zG_run t_Mod [(.goto 55, 0, 0)] (97, [some (zr (some (11, 333)))], [], x14) (by decide +kernel) rfl ?_
      exact zG_forget (L' := [some (zr (some (11, 333)))]) (And.intro rfl trivial) (k_Mod_readClause_j97 hl)
  · refine zG_run t_Mod [(.aload_n 0, 0, 0)] (23, [some (zr (some (11, 333)))], [zr (some (11, 333))], h) (by decide +kernel) rfl ?_
    refine zG_callV (idx := 270) (R := (fun a => (none, a))) (as := []) (rest := []) (n := 0) (fun a ha => c_Mod_readInputs hl ha) (by decide +kernel) ⟨ok_Mod_readInputs, by decide, by decide +kernel⟩ rfl w_441 w_442 w_443 (by decide) rfl rfl rfl (Nat.le_of_ble_eq_true rfl) fun x16 => ?_
    refine zG_run t_Mod [(.goto 71, 0, 0)] (97, [some (zr (some (11, 333)))], [], x16) (by decide +kernel) rfl ?_
    exact zG_forget (L' := [some (zr (some (11, 333)))]) (And.intro rfl trivial) (k_Mod_readClause_j97 hl)
set_option maxRecDepth 20000 in
theorem k_Mod_readClause {l : Launch} {X : zX} (hl : l.stackTraces = false) {h : zH} : zGl l m_Mod_readClause X 0 0 (f_Mod_readClause h) (0, [some (zr (some (11, 333)))], [], h) (fun x => .inr ((fun a => (.inl none, a) : zH → zF) x)) := by
  unfold f_Mod_readClause
  refine zG_run t_Mod [(.aload_n 0, 0, 0), (.getfield 200, 11, 20), (.iconst 1, 0, 0)] (5, [some (zr (some (11, 333)))], [zi 1, zi (h.1 333 20)], h) (by decide +kernel) rfl ?_
  refine zG_icmp (op := .eq) (off := 8) (tgt := 13) (by decide +kernel) rfl Iff.rfl (fun c19 => ?_) (fun c19 => ?_)
  · exact zG_forget (L' := [some (zr (some (11, 333)))]) (And.intro rfl trivial) (k_Mod_readClause_j13 hl)
  · refine zG_run t_Mod [(.aload_n 0, 0, 0), (.iconst 1, 0, 0)] (10, [some (zr (some (11, 333)))], [zi 1, zr (some (11, 333))], h) (by decide +kernel) rfl ?_
    refine zG_callV (idx := 237) (R := (fun a => (none, a))) (as := [zi 1]) (rest := []) (n := 1) (fun a ha => c_Mod_wrong hl ha) (by decide +kernel) ⟨ok_Mod_wrong, by decide, by decide +kernel⟩ rfl w_396 w_397 w_398 (by decide) rfl rfl rfl (Nat.le_of_ble_eq_true rfl) fun x18 => ?_
    exact zG_forget (L' := [some (zr (some (11, 333)))]) (And.intro rfl trivial) (k_Mod_readClause_j13 hl)
theorem c_Mod_readClause {l : Launch} {X : zX} (hl : l.stackTraces = false) {h : zH} {x : zH} (hx : f_Mod_readClause h = some x) : zCt l (true, 2) 2 m_Mod_readClause X 0 0 [zr (some (11, 333))] h ((fun a => (.inl none, a) : zH → zF) x) :=
  zG_ct (R := fun a => (.inl none, a)) (x := x) ok_Mod_readClause hl (Nat.le_of_ble_eq_true rfl) hx (k_Mod_readClause hl)
def m_Mod_takeHalf_62 : zM := (({ cls := "ScanPackerModel", name := "takeHalf", desc := "([I)V" } : Jvm.MethodName), prog_13_method_31_code, 2, (Option.none : Option Jvm.ClassFile.FieldType), [], 1)
theorem ok_Mod_takeHalf_62 : zMok m_Mod_takeHalf_62 := ⟨by decide +kernel, zW_of 1787 (by decide +kernel) (by decide +kernel), zW_of 134 (by decide +kernel) (by decide +kernel), by decide, by decide +kernel, by decide +kernel⟩
set_option maxRecDepth 20000 in
theorem k_Mod_takeHalf_62_b2 {l : Launch} {X : zX} (hl : l.stackTraces = false) {h : zH} {v1 : Int32} : zGl l m_Mod_takeHalf_62 X 0 0 (f_Mod_takeHalf_62_b2 h v1) (2, [some (zr (some (62, 336))), some (zi v1)], [], h) (Sum.elim (fun s : Int32 × zH => .inl (2, [some (zr (some (62, 336))), some (zi s.1)], [], s.2)) (fun y : zH => .inl (27, [none, none], [], y))) := by
  unfold f_Mod_takeHalf_62_b2
  refine zG_run t_Mod [(.iload_n 1, 0, 0), (.aload_n 0, 0, 0)] (4, [some (zr (some (62, 336))), some (zi v1)], [zr (some (62, 336)), zi v1], h) (by decide +kernel) rfl ?_
  refine zG_alen (v := 10) rfl (by decide +kernel) rfl ?_
  refine zG_run t_Mod [(.iconst 2, 0, 0)] (6, [some (zr (some (62, 336))), some (zi v1)], [zi 2, zi 10, zi v1], h) (by decide +kernel) rfl ?_
  refine zG_idivc (by decide +kernel) (by decide) ?_
  refine zG_icmp (op := .ge) (off := 20) (tgt := 27) (by decide +kernel) rfl Iff.rfl (fun c4 => ?_) (fun c4 => ?_)
  · exact zG_end (L' := [none, none]) rfl (trivial)
  · refine zG_run t_Mod [(.aload_n 0, 0, 0), (.iload_n 1, 0, 0), (.aload_n 0, 0, 0), (.aload_n 0, 0, 0)] (14, [some (zr (some (62, 336))), some (zi v1)], [zr (some (62, 336)), zr (some (62, 336)), zi v1, zr (some (62, 336))], h) (by decide +kernel) rfl ?_
    refine zG_alen (v := 10) rfl (by decide +kernel) rfl ?_
    refine zG_run t_Mod [(.iconst 2, 0, 0)] (16, [some (zr (some (62, 336))), some (zi v1)], [zi 2, zi 10, zr (some (62, 336)), zi v1, zr (some (62, 336))], h) (by decide +kernel) rfl ?_
    refine zG_idivc (by decide +kernel) (by decide) ?_
    refine zG_run t_Mod [(.iload_n 1, 0, 0), (.iadd, 0, 0)] (19, [some (zr (some (62, 336))), some (zi v1)], [zi ((10 / 2) + v1), zr (some (62, 336)), zi v1, zr (some (62, 336))], h) (by decide +kernel) rfl ?_
    refine zG_ald (v := zi (h.1 336 ((10 / 2) + v1).toNatClampNeg)) (n := 10) rfl (by decide +kernel) rfl rfl fun hb1 => ?_
    refine zG_guard fun hb3 => ?_
    refine zG_bind (fun y => (21, [some (zr (some (62, 336))), some (zi v1)], [], y)) (zG_astc (h' := zsI h 336 v1.toNatClampNeg (h.1 336 ((10 / 2) + v1).toNatClampNeg)) rfl (by decide +kernel) hb3 rfl (zG_end (L' := [some (zr (some (62, 336))), some (zi v1)]) rfl (And.intro rfl (And.intro rfl trivial)))) fun h2 => ?_
    refine zG_run t_Mod [(.iinc 1 1, 0, 0), (.goto (-22), 0, 0)] (2, [some (zr (some (62, 336))), some (zi (v1 + 1))], [], h2) (by decide +kernel) rfl ?_
    exact zG_end (L' := [some (zr (some (62, 336))), some (zi (v1 + 1))]) rfl (And.intro rfl (And.intro rfl trivial))
set_option maxRecDepth 20000 in
theorem k_Mod_takeHalf_62 {l : Launch} {X : zX} (hl : l.stackTraces = false) {h : zH} : zGl l m_Mod_takeHalf_62 X 0 0 (f_Mod_takeHalf_62 h) (0, [some (zr (some (62, 336))), none], [], h) (fun x => .inr ((fun a => (.inl none, a) : zH → zF) x)) := by
  unfold f_Mod_takeHalf_62
  refine zG_run t_Mod [(.iconst 0, 0, 0), (.istore_n 1, 0, 0)] (2, [some (zr (some (62, 336))), some (zi 0)], [], h) (by decide +kernel) rfl ?_
  refine zG_forget (L' := [some (zr (some (62, 336))), some (zi 0)]) (And.intro rfl (And.intro rfl trivial)) ?_
  refine zG_bind (fun y : zH => (27, [none, none], [], y)) (zG_iter (fun s : Int32 × zH => (2, [some (zr (some (62, 336))), some (zi s.1)], [], s.2)) fun s => k_Mod_takeHalf_62_b2 hl) (fun y6 => ?_)
  exact zG_ret (r := none) rfl (zrd_v rfl (by decide +kernel))
theorem c_Mod_takeHalf_62 {l : Launch} {X : zX} (hl : l.stackTraces = false) {h : zH} {x : zH} (hx : f_Mod_takeHalf_62 h = some x) : zCt l (true, 2) 2 m_Mod_takeHalf_62 X 0 0 [zr (some (62, 336))] h ((fun a => (.inl none, a) : zH → zF) x) :=
  zG_ct (R := fun a => (.inl none, a)) (x := x) ok_Mod_takeHalf_62 hl (Nat.le_of_ble_eq_true rfl) hx (k_Mod_takeHalf_62 hl)
def m_Mod_takeHalf_63 : zM := (({ cls := "ScanPackerModel", name := "takeHalf", desc := "([I)V" } : Jvm.MethodName), prog_13_method_31_code, 2, (Option.none : Option Jvm.ClassFile.FieldType), [], 1)
theorem ok_Mod_takeHalf_63 : zMok m_Mod_takeHalf_63 := ⟨by decide +kernel, zW_of 1787 (by decide +kernel) (by decide +kernel), zW_of 134 (by decide +kernel) (by decide +kernel), by decide, by decide +kernel, by decide +kernel⟩
set_option maxRecDepth 20000 in
theorem k_Mod_takeHalf_63_b2 {l : Launch} {X : zX} (hl : l.stackTraces = false) {h : zH} {v1 : Int32} : zGl l m_Mod_takeHalf_63 X 0 0 (f_Mod_takeHalf_63_b2 h v1) (2, [some (zr (some (63, 337))), some (zi v1)], [], h) (Sum.elim (fun s : Int32 × zH => .inl (2, [some (zr (some (63, 337))), some (zi s.1)], [], s.2)) (fun y : zH => .inl (27, [none, none], [], y))) := by
  unfold f_Mod_takeHalf_63_b2
  refine zG_run t_Mod [(.iload_n 1, 0, 0), (.aload_n 0, 0, 0)] (4, [some (zr (some (63, 337))), some (zi v1)], [zr (some (63, 337)), zi v1], h) (by decide +kernel) rfl ?_
  refine zG_alen (v := 44) rfl (by decide +kernel) rfl ?_
  refine zG_run t_Mod [(.iconst 2, 0, 0)] (6, [some (zr (some (63, 337))), some (zi v1)], [zi 2, zi 44, zi v1], h) (by decide +kernel) rfl ?_
  refine zG_idivc (by decide +kernel) (by decide) ?_
  refine zG_icmp (op := .ge) (off := 20) (tgt := 27) (by decide +kernel) rfl Iff.rfl (fun c4 => ?_) (fun c4 => ?_)
  · exact zG_end (L' := [none, none]) rfl (trivial)
  · refine zG_run t_Mod [(.aload_n 0, 0, 0), (.iload_n 1, 0, 0), (.aload_n 0, 0, 0), (.aload_n 0, 0, 0)] (14, [some (zr (some (63, 337))), some (zi v1)], [zr (some (63, 337)), zr (some (63, 337)), zi v1, zr (some (63, 337))], h) (by decide +kernel) rfl ?_
    refine zG_alen (v := 44) rfl (by decide +kernel) rfl ?_
    refine zG_run t_Mod [(.iconst 2, 0, 0)] (16, [some (zr (some (63, 337))), some (zi v1)], [zi 2, zi 44, zr (some (63, 337)), zi v1, zr (some (63, 337))], h) (by decide +kernel) rfl ?_
    refine zG_idivc (by decide +kernel) (by decide) ?_
    refine zG_run t_Mod [(.iload_n 1, 0, 0), (.iadd, 0, 0)] (19, [some (zr (some (63, 337))), some (zi v1)], [zi ((44 / 2) + v1), zr (some (63, 337)), zi v1, zr (some (63, 337))], h) (by decide +kernel) rfl ?_
    refine zG_ald (v := zi (h.1 337 ((44 / 2) + v1).toNatClampNeg)) (n := 44) rfl (by decide +kernel) rfl rfl fun hb1 => ?_
    refine zG_guard fun hb3 => ?_
    refine zG_bind (fun y => (21, [some (zr (some (63, 337))), some (zi v1)], [], y)) (zG_astc (h' := zsI h 337 v1.toNatClampNeg (h.1 337 ((44 / 2) + v1).toNatClampNeg)) rfl (by decide +kernel) hb3 rfl (zG_end (L' := [some (zr (some (63, 337))), some (zi v1)]) rfl (And.intro rfl (And.intro rfl trivial)))) fun h2 => ?_
    refine zG_run t_Mod [(.iinc 1 1, 0, 0), (.goto (-22), 0, 0)] (2, [some (zr (some (63, 337))), some (zi (v1 + 1))], [], h2) (by decide +kernel) rfl ?_
    exact zG_end (L' := [some (zr (some (63, 337))), some (zi (v1 + 1))]) rfl (And.intro rfl (And.intro rfl trivial))
set_option maxRecDepth 20000 in
theorem k_Mod_takeHalf_63 {l : Launch} {X : zX} (hl : l.stackTraces = false) {h : zH} : zGl l m_Mod_takeHalf_63 X 0 0 (f_Mod_takeHalf_63 h) (0, [some (zr (some (63, 337))), none], [], h) (fun x => .inr ((fun a => (.inl none, a) : zH → zF) x)) := by
  unfold f_Mod_takeHalf_63
  refine zG_run t_Mod [(.iconst 0, 0, 0), (.istore_n 1, 0, 0)] (2, [some (zr (some (63, 337))), some (zi 0)], [], h) (by decide +kernel) rfl ?_
  refine zG_forget (L' := [some (zr (some (63, 337))), some (zi 0)]) (And.intro rfl (And.intro rfl trivial)) ?_
  refine zG_bind (fun y : zH => (27, [none, none], [], y)) (zG_iter (fun s : Int32 × zH => (2, [some (zr (some (63, 337))), some (zi s.1)], [], s.2)) fun s => k_Mod_takeHalf_63_b2 hl) (fun y6 => ?_)
  exact zG_ret (r := none) rfl (zrd_v rfl (by decide +kernel))
theorem c_Mod_takeHalf_63 {l : Launch} {X : zX} (hl : l.stackTraces = false) {h : zH} {x : zH} (hx : f_Mod_takeHalf_63 h = some x) : zCt l (true, 2) 2 m_Mod_takeHalf_63 X 0 0 [zr (some (63, 337))] h ((fun a => (.inl none, a) : zH → zF) x) :=
  zG_ct (R := fun a => (.inl none, a)) (x := x) ok_Mod_takeHalf_63 hl (Nat.le_of_ble_eq_true rfl) hx (k_Mod_takeHalf_63 hl)
def m_Mod_takeHalf_64 : zM := (({ cls := "ScanPackerModel", name := "takeHalf", desc := "([I)V" } : Jvm.MethodName), prog_13_method_31_code, 2, (Option.none : Option Jvm.ClassFile.FieldType), [], 1)
theorem ok_Mod_takeHalf_64 : zMok m_Mod_takeHalf_64 := ⟨by decide +kernel, zW_of 1787 (by decide +kernel) (by decide +kernel), zW_of 134 (by decide +kernel) (by decide +kernel), by decide, by decide +kernel, by decide +kernel⟩
set_option maxRecDepth 20000 in
theorem k_Mod_takeHalf_64_b2 {l : Launch} {X : zX} (hl : l.stackTraces = false) {h : zH} {v1 : Int32} : zGl l m_Mod_takeHalf_64 X 0 0 (f_Mod_takeHalf_64_b2 h v1) (2, [some (zr (some (64, 338))), some (zi v1)], [], h) (Sum.elim (fun s : Int32 × zH => .inl (2, [some (zr (some (64, 338))), some (zi s.1)], [], s.2)) (fun y : zH => .inl (27, [none, none], [], y))) := by
  unfold f_Mod_takeHalf_64_b2
  refine zG_run t_Mod [(.iload_n 1, 0, 0), (.aload_n 0, 0, 0)] (4, [some (zr (some (64, 338))), some (zi v1)], [zr (some (64, 338)), zi v1], h) (by decide +kernel) rfl ?_
  refine zG_alen (v := 44) rfl (by decide +kernel) rfl ?_
  refine zG_run t_Mod [(.iconst 2, 0, 0)] (6, [some (zr (some (64, 338))), some (zi v1)], [zi 2, zi 44, zi v1], h) (by decide +kernel) rfl ?_
  refine zG_idivc (by decide +kernel) (by decide) ?_
  refine zG_icmp (op := .ge) (off := 20) (tgt := 27) (by decide +kernel) rfl Iff.rfl (fun c4 => ?_) (fun c4 => ?_)
  · exact zG_end (L' := [none, none]) rfl (trivial)
  · refine zG_run t_Mod [(.aload_n 0, 0, 0), (.iload_n 1, 0, 0), (.aload_n 0, 0, 0), (.aload_n 0, 0, 0)] (14, [some (zr (some (64, 338))), some (zi v1)], [zr (some (64, 338)), zr (some (64, 338)), zi v1, zr (some (64, 338))], h) (by decide +kernel) rfl ?_
    refine zG_alen (v := 44) rfl (by decide +kernel) rfl ?_
    refine zG_run t_Mod [(.iconst 2, 0, 0)] (16, [some (zr (some (64, 338))), some (zi v1)], [zi 2, zi 44, zr (some (64, 338)), zi v1, zr (some (64, 338))], h) (by decide +kernel) rfl ?_
    refine zG_idivc (by decide +kernel) (by decide) ?_
    refine zG_run t_Mod [(.iload_n 1, 0, 0), (.iadd, 0, 0)] (19, [some (zr (some (64, 338))), some (zi v1)], [zi ((44 / 2) + v1), zr (some (64, 338)), zi v1, zr (some (64, 338))], h) (by decide +kernel) rfl ?_
    refine zG_ald (v := zi (h.1 338 ((44 / 2) + v1).toNatClampNeg)) (n := 44) rfl (by decide +kernel) rfl rfl fun hb1 => ?_
    refine zG_guard fun hb3 => ?_
    refine zG_bind (fun y => (21, [some (zr (some (64, 338))), some (zi v1)], [], y)) (zG_astc (h' := zsI h 338 v1.toNatClampNeg (h.1 338 ((44 / 2) + v1).toNatClampNeg)) rfl (by decide +kernel) hb3 rfl (zG_end (L' := [some (zr (some (64, 338))), some (zi v1)]) rfl (And.intro rfl (And.intro rfl trivial)))) fun h2 => ?_
    refine zG_run t_Mod [(.iinc 1 1, 0, 0), (.goto (-22), 0, 0)] (2, [some (zr (some (64, 338))), some (zi (v1 + 1))], [], h2) (by decide +kernel) rfl ?_
    exact zG_end (L' := [some (zr (some (64, 338))), some (zi (v1 + 1))]) rfl (And.intro rfl (And.intro rfl trivial))
set_option maxRecDepth 20000 in
theorem k_Mod_takeHalf_64 {l : Launch} {X : zX} (hl : l.stackTraces = false) {h : zH} : zGl l m_Mod_takeHalf_64 X 0 0 (f_Mod_takeHalf_64 h) (0, [some (zr (some (64, 338))), none], [], h) (fun x => .inr ((fun a => (.inl none, a) : zH → zF) x)) := by
  unfold f_Mod_takeHalf_64
  refine zG_run t_Mod [(.iconst 0, 0, 0), (.istore_n 1, 0, 0)] (2, [some (zr (some (64, 338))), some (zi 0)], [], h) (by decide +kernel) rfl ?_
  refine zG_forget (L' := [some (zr (some (64, 338))), some (zi 0)]) (And.intro rfl (And.intro rfl trivial)) ?_
  refine zG_bind (fun y : zH => (27, [none, none], [], y)) (zG_iter (fun s : Int32 × zH => (2, [some (zr (some (64, 338))), some (zi s.1)], [], s.2)) fun s => k_Mod_takeHalf_64_b2 hl) (fun y6 => ?_)
  exact zG_ret (r := none) rfl (zrd_v rfl (by decide +kernel))
theorem c_Mod_takeHalf_64 {l : Launch} {X : zX} (hl : l.stackTraces = false) {h : zH} {x : zH} (hx : f_Mod_takeHalf_64 h = some x) : zCt l (true, 2) 2 m_Mod_takeHalf_64 X 0 0 [zr (some (64, 338))] h ((fun a => (.inl none, a) : zH → zF) x) :=
  zG_ct (R := fun a => (.inl none, a)) (x := x) ok_Mod_takeHalf_64 hl (Nat.le_of_ble_eq_true rfl) hx (k_Mod_takeHalf_64 hl)
def m_Mod_takeHalf_65 : zM := (({ cls := "ScanPackerModel", name := "takeHalf", desc := "([I)V" } : Jvm.MethodName), prog_13_method_31_code, 2, (Option.none : Option Jvm.ClassFile.FieldType), [], 1)
theorem ok_Mod_takeHalf_65 : zMok m_Mod_takeHalf_65 := ⟨by decide +kernel, zW_of 1787 (by decide +kernel) (by decide +kernel), zW_of 134 (by decide +kernel) (by decide +kernel), by decide, by decide +kernel, by decide +kernel⟩
set_option maxRecDepth 20000 in
theorem k_Mod_takeHalf_65_b2 {l : Launch} {X : zX} (hl : l.stackTraces = false) {h : zH} {v1 : Int32} : zGl l m_Mod_takeHalf_65 X 0 0 (f_Mod_takeHalf_65_b2 h v1) (2, [some (zr (some (65, 339))), some (zi v1)], [], h) (Sum.elim (fun s : Int32 × zH => .inl (2, [some (zr (some (65, 339))), some (zi s.1)], [], s.2)) (fun y : zH => .inl (27, [none, none], [], y))) := by
  unfold f_Mod_takeHalf_65_b2
  refine zG_run t_Mod [(.iload_n 1, 0, 0), (.aload_n 0, 0, 0)] (4, [some (zr (some (65, 339))), some (zi v1)], [zr (some (65, 339)), zi v1], h) (by decide +kernel) rfl ?_
  refine zG_alen (v := 132) rfl (by decide +kernel) rfl ?_
  refine zG_run t_Mod [(.iconst 2, 0, 0)] (6, [some (zr (some (65, 339))), some (zi v1)], [zi 2, zi 132, zi v1], h) (by decide +kernel) rfl ?_
  refine zG_idivc (by decide +kernel) (by decide) ?_
  refine zG_icmp (op := .ge) (off := 20) (tgt := 27) (by decide +kernel) rfl Iff.rfl (fun c4 => ?_) (fun c4 => ?_)
  · exact zG_end (L' := [none, none]) rfl (trivial)
  · refine zG_run t_Mod [(.aload_n 0, 0, 0), (.iload_n 1, 0, 0), (.aload_n 0, 0, 0), (.aload_n 0, 0, 0)] (14, [some (zr (some (65, 339))), some (zi v1)], [zr (some (65, 339)), zr (some (65, 339)), zi v1, zr (some (65, 339))], h) (by decide +kernel) rfl ?_
    refine zG_alen (v := 132) rfl (by decide +kernel) rfl ?_
    refine zG_run t_Mod [(.iconst 2, 0, 0)] (16, [some (zr (some (65, 339))), some (zi v1)], [zi 2, zi 132, zr (some (65, 339)), zi v1, zr (some (65, 339))], h) (by decide +kernel) rfl ?_
    refine zG_idivc (by decide +kernel) (by decide) ?_
    refine zG_run t_Mod [(.iload_n 1, 0, 0), (.iadd, 0, 0)] (19, [some (zr (some (65, 339))), some (zi v1)], [zi ((132 / 2) + v1), zr (some (65, 339)), zi v1, zr (some (65, 339))], h) (by decide +kernel) rfl ?_
    refine zG_ald (v := zi (h.1 339 ((132 / 2) + v1).toNatClampNeg)) (n := 132) rfl (by decide +kernel) rfl rfl fun hb1 => ?_
    refine zG_guard fun hb3 => ?_
    refine zG_bind (fun y => (21, [some (zr (some (65, 339))), some (zi v1)], [], y)) (zG_astc (h' := zsI h 339 v1.toNatClampNeg (h.1 339 ((132 / 2) + v1).toNatClampNeg)) rfl (by decide +kernel) hb3 rfl (zG_end (L' := [some (zr (some (65, 339))), some (zi v1)]) rfl (And.intro rfl (And.intro rfl trivial)))) fun h2 => ?_
    refine zG_run t_Mod [(.iinc 1 1, 0, 0), (.goto (-22), 0, 0)] (2, [some (zr (some (65, 339))), some (zi (v1 + 1))], [], h2) (by decide +kernel) rfl ?_
    exact zG_end (L' := [some (zr (some (65, 339))), some (zi (v1 + 1))]) rfl (And.intro rfl (And.intro rfl trivial))
set_option maxRecDepth 20000 in
theorem k_Mod_takeHalf_65 {l : Launch} {X : zX} (hl : l.stackTraces = false) {h : zH} : zGl l m_Mod_takeHalf_65 X 0 0 (f_Mod_takeHalf_65 h) (0, [some (zr (some (65, 339))), none], [], h) (fun x => .inr ((fun a => (.inl none, a) : zH → zF) x)) := by
  unfold f_Mod_takeHalf_65
  refine zG_run t_Mod [(.iconst 0, 0, 0), (.istore_n 1, 0, 0)] (2, [some (zr (some (65, 339))), some (zi 0)], [], h) (by decide +kernel) rfl ?_
  refine zG_forget (L' := [some (zr (some (65, 339))), some (zi 0)]) (And.intro rfl (And.intro rfl trivial)) ?_
  refine zG_bind (fun y : zH => (27, [none, none], [], y)) (zG_iter (fun s : Int32 × zH => (2, [some (zr (some (65, 339))), some (zi s.1)], [], s.2)) fun s => k_Mod_takeHalf_65_b2 hl) (fun y6 => ?_)
  exact zG_ret (r := none) rfl (zrd_v rfl (by decide +kernel))
theorem c_Mod_takeHalf_65 {l : Launch} {X : zX} (hl : l.stackTraces = false) {h : zH} {x : zH} (hx : f_Mod_takeHalf_65 h = some x) : zCt l (true, 2) 2 m_Mod_takeHalf_65 X 0 0 [zr (some (65, 339))] h ((fun a => (.inl none, a) : zH → zF) x) :=
  zG_ct (R := fun a => (.inl none, a)) (x := x) ok_Mod_takeHalf_65 hl (Nat.le_of_ble_eq_true rfl) hx (k_Mod_takeHalf_65 hl)
def m_Mod_takeHalf_66 : zM := (({ cls := "ScanPackerModel", name := "takeHalf", desc := "([I)V" } : Jvm.MethodName), prog_13_method_31_code, 2, (Option.none : Option Jvm.ClassFile.FieldType), [], 1)
theorem ok_Mod_takeHalf_66 : zMok m_Mod_takeHalf_66 := ⟨by decide +kernel, zW_of 1787 (by decide +kernel) (by decide +kernel), zW_of 134 (by decide +kernel) (by decide +kernel), by decide, by decide +kernel, by decide +kernel⟩
set_option maxRecDepth 20000 in
theorem k_Mod_takeHalf_66_b2 {l : Launch} {X : zX} (hl : l.stackTraces = false) {h : zH} {v1 : Int32} : zGl l m_Mod_takeHalf_66 X 0 0 (f_Mod_takeHalf_66_b2 h v1) (2, [some (zr (some (66, 340))), some (zi v1)], [], h) (Sum.elim (fun s : Int32 × zH => .inl (2, [some (zr (some (66, 340))), some (zi s.1)], [], s.2)) (fun y : zH => .inl (27, [none, none], [], y))) := by
  unfold f_Mod_takeHalf_66_b2
  refine zG_run t_Mod [(.iload_n 1, 0, 0), (.aload_n 0, 0, 0)] (4, [some (zr (some (66, 340))), some (zi v1)], [zr (some (66, 340)), zi v1], h) (by decide +kernel) rfl ?_
  refine zG_alen (v := 44) rfl (by decide +kernel) rfl ?_
  refine zG_run t_Mod [(.iconst 2, 0, 0)] (6, [some (zr (some (66, 340))), some (zi v1)], [zi 2, zi 44, zi v1], h) (by decide +kernel) rfl ?_
  refine zG_idivc (by decide +kernel) (by decide) ?_
  refine zG_icmp (op := .ge) (off := 20) (tgt := 27) (by decide +kernel) rfl Iff.rfl (fun c4 => ?_) (fun c4 => ?_)
  · exact zG_end (L' := [none, none]) rfl (trivial)
  · refine zG_run t_Mod [(.aload_n 0, 0, 0), (.iload_n 1, 0, 0), (.aload_n 0, 0, 0), (.aload_n 0, 0, 0)] (14, [some (zr (some (66, 340))), some (zi v1)], [zr (some (66, 340)), zr (some (66, 340)), zi v1, zr (some (66, 340))], h) (by decide +kernel) rfl ?_
    refine zG_alen (v := 44) rfl (by decide +kernel) rfl ?_
    refine zG_run t_Mod [(.iconst 2, 0, 0)] (16, [some (zr (some (66, 340))), some (zi v1)], [zi 2, zi 44, zr (some (66, 340)), zi v1, zr (some (66, 340))], h) (by decide +kernel) rfl ?_
    refine zG_idivc (by decide +kernel) (by decide) ?_
    refine zG_run t_Mod [(.iload_n 1, 0, 0), (.iadd, 0, 0)] (19, [some (zr (some (66, 340))), some (zi v1)], [zi ((44 / 2) + v1), zr (some (66, 340)), zi v1, zr (some (66, 340))], h) (by decide +kernel) rfl ?_
    refine zG_ald (v := zi (h.1 340 ((44 / 2) + v1).toNatClampNeg)) (n := 44) rfl (by decide +kernel) rfl rfl fun hb1 => ?_
    refine zG_guard fun hb3 => ?_
    refine zG_bind (fun y => (21, [some (zr (some (66, 340))), some (zi v1)], [], y)) (zG_astc (h' := zsI h 340 v1.toNatClampNeg (h.1 340 ((44 / 2) + v1).toNatClampNeg)) rfl (by decide +kernel) hb3 rfl (zG_end (L' := [some (zr (some (66, 340))), some (zi v1)]) rfl (And.intro rfl (And.intro rfl trivial)))) fun h2 => ?_
    refine zG_run t_Mod [(.iinc 1 1, 0, 0), (.goto (-22), 0, 0)] (2, [some (zr (some (66, 340))), some (zi (v1 + 1))], [], h2) (by decide +kernel) rfl ?_
    exact zG_end (L' := [some (zr (some (66, 340))), some (zi (v1 + 1))]) rfl (And.intro rfl (And.intro rfl trivial))
set_option maxRecDepth 20000 in
theorem k_Mod_takeHalf_66 {l : Launch} {X : zX} (hl : l.stackTraces = false) {h : zH} : zGl l m_Mod_takeHalf_66 X 0 0 (f_Mod_takeHalf_66 h) (0, [some (zr (some (66, 340))), none], [], h) (fun x => .inr ((fun a => (.inl none, a) : zH → zF) x)) := by
  unfold f_Mod_takeHalf_66
  refine zG_run t_Mod [(.iconst 0, 0, 0), (.istore_n 1, 0, 0)] (2, [some (zr (some (66, 340))), some (zi 0)], [], h) (by decide +kernel) rfl ?_
  refine zG_forget (L' := [some (zr (some (66, 340))), some (zi 0)]) (And.intro rfl (And.intro rfl trivial)) ?_
  refine zG_bind (fun y : zH => (27, [none, none], [], y)) (zG_iter (fun s : Int32 × zH => (2, [some (zr (some (66, 340))), some (zi s.1)], [], s.2)) fun s => k_Mod_takeHalf_66_b2 hl) (fun y6 => ?_)
  exact zG_ret (r := none) rfl (zrd_v rfl (by decide +kernel))
theorem c_Mod_takeHalf_66 {l : Launch} {X : zX} (hl : l.stackTraces = false) {h : zH} {x : zH} (hx : f_Mod_takeHalf_66 h = some x) : zCt l (true, 2) 2 m_Mod_takeHalf_66 X 0 0 [zr (some (66, 340))] h ((fun a => (.inl none, a) : zH → zF) x) :=
  zG_ct (R := fun a => (.inl none, a)) (x := x) ok_Mod_takeHalf_66 hl (Nat.le_of_ble_eq_true rfl) hx (k_Mod_takeHalf_66 hl)
def m_Mod_takeHalf_67 : zM := (({ cls := "ScanPackerModel", name := "takeHalf", desc := "([I)V" } : Jvm.MethodName), prog_13_method_31_code, 2, (Option.none : Option Jvm.ClassFile.FieldType), [], 1)
theorem ok_Mod_takeHalf_67 : zMok m_Mod_takeHalf_67 := ⟨by decide +kernel, zW_of 1787 (by decide +kernel) (by decide +kernel), zW_of 134 (by decide +kernel) (by decide +kernel), by decide, by decide +kernel, by decide +kernel⟩
set_option maxRecDepth 20000 in
theorem k_Mod_takeHalf_67_b2 {l : Launch} {X : zX} (hl : l.stackTraces = false) {h : zH} {v1 : Int32} : zGl l m_Mod_takeHalf_67 X 0 0 (f_Mod_takeHalf_67_b2 h v1) (2, [some (zr (some (67, 341))), some (zi v1)], [], h) (Sum.elim (fun s : Int32 × zH => .inl (2, [some (zr (some (67, 341))), some (zi s.1)], [], s.2)) (fun y : zH => .inl (27, [none, none], [], y))) := by
  unfold f_Mod_takeHalf_67_b2
  refine zG_run t_Mod [(.iload_n 1, 0, 0), (.aload_n 0, 0, 0)] (4, [some (zr (some (67, 341))), some (zi v1)], [zr (some (67, 341)), zi v1], h) (by decide +kernel) rfl ?_
  refine zG_alen (v := 12) rfl (by decide +kernel) rfl ?_
  refine zG_run t_Mod [(.iconst 2, 0, 0)] (6, [some (zr (some (67, 341))), some (zi v1)], [zi 2, zi 12, zi v1], h) (by decide +kernel) rfl ?_
  refine zG_idivc (by decide +kernel) (by decide) ?_
  refine zG_icmp (op := .ge) (off := 20) (tgt := 27) (by decide +kernel) rfl Iff.rfl (fun c4 => ?_) (fun c4 => ?_)
  · exact zG_end (L' := [none, none]) rfl (trivial)
  · refine zG_run t_Mod [(.aload_n 0, 0, 0), (.iload_n 1, 0, 0), (.aload_n 0, 0, 0), (.aload_n 0, 0, 0)] (14, [some (zr (some (67, 341))), some (zi v1)], [zr (some (67, 341)), zr (some (67, 341)), zi v1, zr (some (67, 341))], h) (by decide +kernel) rfl ?_
    refine zG_alen (v := 12) rfl (by decide +kernel) rfl ?_
    refine zG_run t_Mod [(.iconst 2, 0, 0)] (16, [some (zr (some (67, 341))), some (zi v1)], [zi 2, zi 12, zr (some (67, 341)), zi v1, zr (some (67, 341))], h) (by decide +kernel) rfl ?_
    refine zG_idivc (by decide +kernel) (by decide) ?_
    refine zG_run t_Mod [(.iload_n 1, 0, 0), (.iadd, 0, 0)] (19, [some (zr (some (67, 341))), some (zi v1)], [zi ((12 / 2) + v1), zr (some (67, 341)), zi v1, zr (some (67, 341))], h) (by decide +kernel) rfl ?_
    refine zG_ald (v := zi (h.1 341 ((12 / 2) + v1).toNatClampNeg)) (n := 12) rfl (by decide +kernel) rfl rfl fun hb1 => ?_
    refine zG_guard fun hb3 => ?_
    refine zG_bind (fun y => (21, [some (zr (some (67, 341))), some (zi v1)], [], y)) (zG_astc (h' := zsI h 341 v1.toNatClampNeg (h.1 341 ((12 / 2) + v1).toNatClampNeg)) rfl (by decide +kernel) hb3 rfl (zG_end (L' := [some (zr (some (67, 341))), some (zi v1)]) rfl (And.intro rfl (And.intro rfl trivial)))) fun h2 => ?_
    refine zG_run t_Mod [(.iinc 1 1, 0, 0), (.goto (-22), 0, 0)] (2, [some (zr (some (67, 341))), some (zi (v1 + 1))], [], h2) (by decide +kernel) rfl ?_
    exact zG_end (L' := [some (zr (some (67, 341))), some (zi (v1 + 1))]) rfl (And.intro rfl (And.intro rfl trivial))
set_option maxRecDepth 20000 in
theorem k_Mod_takeHalf_67 {l : Launch} {X : zX} (hl : l.stackTraces = false) {h : zH} : zGl l m_Mod_takeHalf_67 X 0 0 (f_Mod_takeHalf_67 h) (0, [some (zr (some (67, 341))), none], [], h) (fun x => .inr ((fun a => (.inl none, a) : zH → zF) x)) := by
  unfold f_Mod_takeHalf_67
  refine zG_run t_Mod [(.iconst 0, 0, 0), (.istore_n 1, 0, 0)] (2, [some (zr (some (67, 341))), some (zi 0)], [], h) (by decide +kernel) rfl ?_
  refine zG_forget (L' := [some (zr (some (67, 341))), some (zi 0)]) (And.intro rfl (And.intro rfl trivial)) ?_
  refine zG_bind (fun y : zH => (27, [none, none], [], y)) (zG_iter (fun s : Int32 × zH => (2, [some (zr (some (67, 341))), some (zi s.1)], [], s.2)) fun s => k_Mod_takeHalf_67_b2 hl) (fun y6 => ?_)
  exact zG_ret (r := none) rfl (zrd_v rfl (by decide +kernel))
theorem c_Mod_takeHalf_67 {l : Launch} {X : zX} (hl : l.stackTraces = false) {h : zH} {x : zH} (hx : f_Mod_takeHalf_67 h = some x) : zCt l (true, 2) 2 m_Mod_takeHalf_67 X 0 0 [zr (some (67, 341))] h ((fun a => (.inl none, a) : zH → zF) x) :=
  zG_ct (R := fun a => (.inl none, a)) (x := x) ok_Mod_takeHalf_67 hl (Nat.le_of_ble_eq_true rfl) hx (k_Mod_takeHalf_67 hl)
def m_Mod_takeHalf_68 : zM := (({ cls := "ScanPackerModel", name := "takeHalf", desc := "([I)V" } : Jvm.MethodName), prog_13_method_31_code, 2, (Option.none : Option Jvm.ClassFile.FieldType), [], 1)
theorem ok_Mod_takeHalf_68 : zMok m_Mod_takeHalf_68 := ⟨by decide +kernel, zW_of 1787 (by decide +kernel) (by decide +kernel), zW_of 134 (by decide +kernel) (by decide +kernel), by decide, by decide +kernel, by decide +kernel⟩
set_option maxRecDepth 20000 in
theorem k_Mod_takeHalf_68_b2 {l : Launch} {X : zX} (hl : l.stackTraces = false) {h : zH} {v1 : Int32} : zGl l m_Mod_takeHalf_68 X 0 0 (f_Mod_takeHalf_68_b2 h v1) (2, [some (zr (some (68, 342))), some (zi v1)], [], h) (Sum.elim (fun s : Int32 × zH => .inl (2, [some (zr (some (68, 342))), some (zi s.1)], [], s.2)) (fun y : zH => .inl (27, [none, none], [], y))) := by
  unfold f_Mod_takeHalf_68_b2
  refine zG_run t_Mod [(.iload_n 1, 0, 0), (.aload_n 0, 0, 0)] (4, [some (zr (some (68, 342))), some (zi v1)], [zr (some (68, 342)), zi v1], h) (by decide +kernel) rfl ?_
  refine zG_alen (v := 12) rfl (by decide +kernel) rfl ?_
  refine zG_run t_Mod [(.iconst 2, 0, 0)] (6, [some (zr (some (68, 342))), some (zi v1)], [zi 2, zi 12, zi v1], h) (by decide +kernel) rfl ?_
  refine zG_idivc (by decide +kernel) (by decide) ?_
  refine zG_icmp (op := .ge) (off := 20) (tgt := 27) (by decide +kernel) rfl Iff.rfl (fun c4 => ?_) (fun c4 => ?_)
  · exact zG_end (L' := [none, none]) rfl (trivial)
  · refine zG_run t_Mod [(.aload_n 0, 0, 0), (.iload_n 1, 0, 0), (.aload_n 0, 0, 0), (.aload_n 0, 0, 0)] (14, [some (zr (some (68, 342))), some (zi v1)], [zr (some (68, 342)), zr (some (68, 342)), zi v1, zr (some (68, 342))], h) (by decide +kernel) rfl ?_
    refine zG_alen (v := 12) rfl (by decide +kernel) rfl ?_
    refine zG_run t_Mod [(.iconst 2, 0, 0)] (16, [some (zr (some (68, 342))), some (zi v1)], [zi 2, zi 12, zr (some (68, 342)), zi v1, zr (some (68, 342))], h) (by decide +kernel) rfl ?_
    refine zG_idivc (by decide +kernel) (by decide) ?_
    refine zG_run t_Mod [(.iload_n 1, 0, 0), (.iadd, 0, 0)] (19, [some (zr (some (68, 342))), some (zi v1)], [zi ((12 / 2) + v1), zr (some (68, 342)), zi v1, zr (some (68, 342))], h) (by decide +kernel) rfl ?_
    refine zG_ald (v := zi (h.1 342 ((12 / 2) + v1).toNatClampNeg)) (n := 12) rfl (by decide +kernel) rfl rfl fun hb1 => ?_
    refine zG_guard fun hb3 => ?_
    refine zG_bind (fun y => (21, [some (zr (some (68, 342))), some (zi v1)], [], y)) (zG_astc (h' := zsI h 342 v1.toNatClampNeg (h.1 342 ((12 / 2) + v1).toNatClampNeg)) rfl (by decide +kernel) hb3 rfl (zG_end (L' := [some (zr (some (68, 342))), some (zi v1)]) rfl (And.intro rfl (And.intro rfl trivial)))) fun h2 => ?_
    refine zG_run t_Mod [(.iinc 1 1, 0, 0), (.goto (-22), 0, 0)] (2, [some (zr (some (68, 342))), some (zi (v1 + 1))], [], h2) (by decide +kernel) rfl ?_
    exact zG_end (L' := [some (zr (some (68, 342))), some (zi (v1 + 1))]) rfl (And.intro rfl (And.intro rfl trivial))
set_option maxRecDepth 20000 in
theorem k_Mod_takeHalf_68 {l : Launch} {X : zX} (hl : l.stackTraces = false) {h : zH} : zGl l m_Mod_takeHalf_68 X 0 0 (f_Mod_takeHalf_68 h) (0, [some (zr (some (68, 342))), none], [], h) (fun x => .inr ((fun a => (.inl none, a) : zH → zF) x)) := by
  unfold f_Mod_takeHalf_68
  refine zG_run t_Mod [(.iconst 0, 0, 0), (.istore_n 1, 0, 0)] (2, [some (zr (some (68, 342))), some (zi 0)], [], h) (by decide +kernel) rfl ?_
  refine zG_forget (L' := [some (zr (some (68, 342))), some (zi 0)]) (And.intro rfl (And.intro rfl trivial)) ?_
  refine zG_bind (fun y : zH => (27, [none, none], [], y)) (zG_iter (fun s : Int32 × zH => (2, [some (zr (some (68, 342))), some (zi s.1)], [], s.2)) fun s => k_Mod_takeHalf_68_b2 hl) (fun y6 => ?_)
  exact zG_ret (r := none) rfl (zrd_v rfl (by decide +kernel))
theorem c_Mod_takeHalf_68 {l : Launch} {X : zX} (hl : l.stackTraces = false) {h : zH} {x : zH} (hx : f_Mod_takeHalf_68 h = some x) : zCt l (true, 2) 2 m_Mod_takeHalf_68 X 0 0 [zr (some (68, 342))] h ((fun a => (.inl none, a) : zH → zF) x) :=
  zG_ct (R := fun a => (.inl none, a)) (x := x) ok_Mod_takeHalf_68 hl (Nat.le_of_ble_eq_true rfl) hx (k_Mod_takeHalf_68 hl)
def m_Mod_takeHalf_69 : zM := (({ cls := "ScanPackerModel", name := "takeHalf", desc := "([I)V" } : Jvm.MethodName), prog_13_method_31_code, 2, (Option.none : Option Jvm.ClassFile.FieldType), [], 1)
theorem ok_Mod_takeHalf_69 : zMok m_Mod_takeHalf_69 := ⟨by decide +kernel, zW_of 1787 (by decide +kernel) (by decide +kernel), zW_of 134 (by decide +kernel) (by decide +kernel), by decide, by decide +kernel, by decide +kernel⟩
set_option maxRecDepth 20000 in
theorem k_Mod_takeHalf_69_b2 {l : Launch} {X : zX} (hl : l.stackTraces = false) {h : zH} {v1 : Int32} : zGl l m_Mod_takeHalf_69 X 0 0 (f_Mod_takeHalf_69_b2 h v1) (2, [some (zr (some (69, 343))), some (zi v1)], [], h) (Sum.elim (fun s : Int32 × zH => .inl (2, [some (zr (some (69, 343))), some (zi s.1)], [], s.2)) (fun y : zH => .inl (27, [none, none], [], y))) := by
  unfold f_Mod_takeHalf_69_b2
  refine zG_run t_Mod [(.iload_n 1, 0, 0), (.aload_n 0, 0, 0)] (4, [some (zr (some (69, 343))), some (zi v1)], [zr (some (69, 343)), zi v1], h) (by decide +kernel) rfl ?_
  refine zG_alen (v := 6) rfl (by decide +kernel) rfl ?_
  refine zG_run t_Mod [(.iconst 2, 0, 0)] (6, [some (zr (some (69, 343))), some (zi v1)], [zi 2, zi 6, zi v1], h) (by decide +kernel) rfl ?_
  refine zG_idivc (by decide +kernel) (by decide) ?_
  refine zG_icmp (op := .ge) (off := 20) (tgt := 27) (by decide +kernel) rfl Iff.rfl (fun c4 => ?_) (fun c4 => ?_)
  · exact zG_end (L' := [none, none]) rfl (trivial)
  · refine zG_run t_Mod [(.aload_n 0, 0, 0), (.iload_n 1, 0, 0), (.aload_n 0, 0, 0), (.aload_n 0, 0, 0)] (14, [some (zr (some (69, 343))), some (zi v1)], [zr (some (69, 343)), zr (some (69, 343)), zi v1, zr (some (69, 343))], h) (by decide +kernel) rfl ?_
    refine zG_alen (v := 6) rfl (by decide +kernel) rfl ?_
    refine zG_run t_Mod [(.iconst 2, 0, 0)] (16, [some (zr (some (69, 343))), some (zi v1)], [zi 2, zi 6, zr (some (69, 343)), zi v1, zr (some (69, 343))], h) (by decide +kernel) rfl ?_
    refine zG_idivc (by decide +kernel) (by decide) ?_
    refine zG_run t_Mod [(.iload_n 1, 0, 0), (.iadd, 0, 0)] (19, [some (zr (some (69, 343))), some (zi v1)], [zi ((6 / 2) + v1), zr (some (69, 343)), zi v1, zr (some (69, 343))], h) (by decide +kernel) rfl ?_
    refine zG_ald (v := zi (h.1 343 ((6 / 2) + v1).toNatClampNeg)) (n := 6) rfl (by decide +kernel) rfl rfl fun hb1 => ?_
    refine zG_guard fun hb3 => ?_
    refine zG_bind (fun y => (21, [some (zr (some (69, 343))), some (zi v1)], [], y)) (zG_astc (h' := zsI h 343 v1.toNatClampNeg (h.1 343 ((6 / 2) + v1).toNatClampNeg)) rfl (by decide +kernel) hb3 rfl (zG_end (L' := [some (zr (some (69, 343))), some (zi v1)]) rfl (And.intro rfl (And.intro rfl trivial)))) fun h2 => ?_
    refine zG_run t_Mod [(.iinc 1 1, 0, 0), (.goto (-22), 0, 0)] (2, [some (zr (some (69, 343))), some (zi (v1 + 1))], [], h2) (by decide +kernel) rfl ?_
    exact zG_end (L' := [some (zr (some (69, 343))), some (zi (v1 + 1))]) rfl (And.intro rfl (And.intro rfl trivial))
set_option maxRecDepth 20000 in
theorem k_Mod_takeHalf_69 {l : Launch} {X : zX} (hl : l.stackTraces = false) {h : zH} : zGl l m_Mod_takeHalf_69 X 0 0 (f_Mod_takeHalf_69 h) (0, [some (zr (some (69, 343))), none], [], h) (fun x => .inr ((fun a => (.inl none, a) : zH → zF) x)) := by
  unfold f_Mod_takeHalf_69
  refine zG_run t_Mod [(.iconst 0, 0, 0), (.istore_n 1, 0, 0)] (2, [some (zr (some (69, 343))), some (zi 0)], [], h) (by decide +kernel) rfl ?_
  refine zG_forget (L' := [some (zr (some (69, 343))), some (zi 0)]) (And.intro rfl (And.intro rfl trivial)) ?_
  refine zG_bind (fun y : zH => (27, [none, none], [], y)) (zG_iter (fun s : Int32 × zH => (2, [some (zr (some (69, 343))), some (zi s.1)], [], s.2)) fun s => k_Mod_takeHalf_69_b2 hl) (fun y6 => ?_)
  exact zG_ret (r := none) rfl (zrd_v rfl (by decide +kernel))
theorem c_Mod_takeHalf_69 {l : Launch} {X : zX} (hl : l.stackTraces = false) {h : zH} {x : zH} (hx : f_Mod_takeHalf_69 h = some x) : zCt l (true, 2) 2 m_Mod_takeHalf_69 X 0 0 [zr (some (69, 343))] h ((fun a => (.inl none, a) : zH → zF) x) :=
  zG_ct (R := fun a => (.inl none, a)) (x := x) ok_Mod_takeHalf_69 hl (Nat.le_of_ble_eq_true rfl) hx (k_Mod_takeHalf_69 hl)
def m_Mod_takeHalf_70 : zM := (({ cls := "ScanPackerModel", name := "takeHalf", desc := "([I)V" } : Jvm.MethodName), prog_13_method_31_code, 2, (Option.none : Option Jvm.ClassFile.FieldType), [], 1)
theorem ok_Mod_takeHalf_70 : zMok m_Mod_takeHalf_70 := ⟨by decide +kernel, zW_of 1787 (by decide +kernel) (by decide +kernel), zW_of 134 (by decide +kernel) (by decide +kernel), by decide, by decide +kernel, by decide +kernel⟩
set_option maxRecDepth 20000 in
theorem k_Mod_takeHalf_70_b2 {l : Launch} {X : zX} (hl : l.stackTraces = false) {h : zH} {v1 : Int32} : zGl l m_Mod_takeHalf_70 X 0 0 (f_Mod_takeHalf_70_b2 h v1) (2, [some (zr (some (70, 344))), some (zi v1)], [], h) (Sum.elim (fun s : Int32 × zH => .inl (2, [some (zr (some (70, 344))), some (zi s.1)], [], s.2)) (fun y : zH => .inl (27, [none, none], [], y))) := by
  unfold f_Mod_takeHalf_70_b2
  refine zG_run t_Mod [(.iload_n 1, 0, 0), (.aload_n 0, 0, 0)] (4, [some (zr (some (70, 344))), some (zi v1)], [zr (some (70, 344)), zi v1], h) (by decide +kernel) rfl ?_
  refine zG_alen (v := 36) rfl (by decide +kernel) rfl ?_
  refine zG_run t_Mod [(.iconst 2, 0, 0)] (6, [some (zr (some (70, 344))), some (zi v1)], [zi 2, zi 36, zi v1], h) (by decide +kernel) rfl ?_
  refine zG_idivc (by decide +kernel) (by decide) ?_
  refine zG_icmp (op := .ge) (off := 20) (tgt := 27) (by decide +kernel) rfl Iff.rfl (fun c4 => ?_) (fun c4 => ?_)
  · exact zG_end (L' := [none, none]) rfl (trivial)
  · refine zG_run t_Mod [(.aload_n 0, 0, 0), (.iload_n 1, 0, 0), (.aload_n 0, 0, 0), (.aload_n 0, 0, 0)] (14, [some (zr (some (70, 344))), some (zi v1)], [zr (some (70, 344)), zr (some (70, 344)), zi v1, zr (some (70, 344))], h) (by decide +kernel) rfl ?_
    refine zG_alen (v := 36) rfl (by decide +kernel) rfl ?_
    refine zG_run t_Mod [(.iconst 2, 0, 0)] (16, [some (zr (some (70, 344))), some (zi v1)], [zi 2, zi 36, zr (some (70, 344)), zi v1, zr (some (70, 344))], h) (by decide +kernel) rfl ?_
    refine zG_idivc (by decide +kernel) (by decide) ?_
    refine zG_run t_Mod [(.iload_n 1, 0, 0), (.iadd, 0, 0)] (19, [some (zr (some (70, 344))), some (zi v1)], [zi ((36 / 2) + v1), zr (some (70, 344)), zi v1, zr (some (70, 344))], h) (by decide +kernel) rfl ?_
    refine zG_ald (v := zi (h.1 344 ((36 / 2) + v1).toNatClampNeg)) (n := 36) rfl (by decide +kernel) rfl rfl fun hb1 => ?_
    refine zG_guard fun hb3 => ?_
    refine zG_bind (fun y => (21, [some (zr (some (70, 344))), some (zi v1)], [], y)) (zG_astc (h' := zsI h 344 v1.toNatClampNeg (h.1 344 ((36 / 2) + v1).toNatClampNeg)) rfl (by decide +kernel) hb3 rfl (zG_end (L' := [some (zr (some (70, 344))), some (zi v1)]) rfl (And.intro rfl (And.intro rfl trivial)))) fun h2 => ?_
    refine zG_run t_Mod [(.iinc 1 1, 0, 0), (.goto (-22), 0, 0)] (2, [some (zr (some (70, 344))), some (zi (v1 + 1))], [], h2) (by decide +kernel) rfl ?_
    exact zG_end (L' := [some (zr (some (70, 344))), some (zi (v1 + 1))]) rfl (And.intro rfl (And.intro rfl trivial))
set_option maxRecDepth 20000 in
theorem k_Mod_takeHalf_70 {l : Launch} {X : zX} (hl : l.stackTraces = false) {h : zH} : zGl l m_Mod_takeHalf_70 X 0 0 (f_Mod_takeHalf_70 h) (0, [some (zr (some (70, 344))), none], [], h) (fun x => .inr ((fun a => (.inl none, a) : zH → zF) x)) := by
  unfold f_Mod_takeHalf_70
  refine zG_run t_Mod [(.iconst 0, 0, 0), (.istore_n 1, 0, 0)] (2, [some (zr (some (70, 344))), some (zi 0)], [], h) (by decide +kernel) rfl ?_
  refine zG_forget (L' := [some (zr (some (70, 344))), some (zi 0)]) (And.intro rfl (And.intro rfl trivial)) ?_
  refine zG_bind (fun y : zH => (27, [none, none], [], y)) (zG_iter (fun s : Int32 × zH => (2, [some (zr (some (70, 344))), some (zi s.1)], [], s.2)) fun s => k_Mod_takeHalf_70_b2 hl) (fun y6 => ?_)
  exact zG_ret (r := none) rfl (zrd_v rfl (by decide +kernel))
theorem c_Mod_takeHalf_70 {l : Launch} {X : zX} (hl : l.stackTraces = false) {h : zH} {x : zH} (hx : f_Mod_takeHalf_70 h = some x) : zCt l (true, 2) 2 m_Mod_takeHalf_70 X 0 0 [zr (some (70, 344))] h ((fun a => (.inl none, a) : zH → zF) x) :=
  zG_ct (R := fun a => (.inl none, a)) (x := x) ok_Mod_takeHalf_70 hl (Nat.le_of_ble_eq_true rfl) hx (k_Mod_takeHalf_70 hl)
def m_Mod_takeHalf_71 : zM := (({ cls := "ScanPackerModel", name := "takeHalf", desc := "([I)V" } : Jvm.MethodName), prog_13_method_31_code, 2, (Option.none : Option Jvm.ClassFile.FieldType), [], 1)
theorem ok_Mod_takeHalf_71 : zMok m_Mod_takeHalf_71 := ⟨by decide +kernel, zW_of 1787 (by decide +kernel) (by decide +kernel), zW_of 134 (by decide +kernel) (by decide +kernel), by decide, by decide +kernel, by decide +kernel⟩
set_option maxRecDepth 20000 in
theorem k_Mod_takeHalf_71_b2 {l : Launch} {X : zX} (hl : l.stackTraces = false) {h : zH} {v1 : Int32} : zGl l m_Mod_takeHalf_71 X 0 0 (f_Mod_takeHalf_71_b2 h v1) (2, [some (zr (some (71, 345))), some (zi v1)], [], h) (Sum.elim (fun s : Int32 × zH => .inl (2, [some (zr (some (71, 345))), some (zi s.1)], [], s.2)) (fun y : zH => .inl (27, [none, none], [], y))) := by
  unfold f_Mod_takeHalf_71_b2
  refine zG_run t_Mod [(.iload_n 1, 0, 0), (.aload_n 0, 0, 0)] (4, [some (zr (some (71, 345))), some (zi v1)], [zr (some (71, 345)), zi v1], h) (by decide +kernel) rfl ?_
  refine zG_alen (v := 44) rfl (by decide +kernel) rfl ?_
  refine zG_run t_Mod [(.iconst 2, 0, 0)] (6, [some (zr (some (71, 345))), some (zi v1)], [zi 2, zi 44, zi v1], h) (by decide +kernel) rfl ?_
  refine zG_idivc (by decide +kernel) (by decide) ?_
  refine zG_icmp (op := .ge) (off := 20) (tgt := 27) (by decide +kernel) rfl Iff.rfl (fun c4 => ?_) (fun c4 => ?_)
  · exact zG_end (L' := [none, none]) rfl (trivial)
  · refine zG_run t_Mod [(.aload_n 0, 0, 0), (.iload_n 1, 0, 0), (.aload_n 0, 0, 0), (.aload_n 0, 0, 0)] (14, [some (zr (some (71, 345))), some (zi v1)], [zr (some (71, 345)), zr (some (71, 345)), zi v1, zr (some (71, 345))], h) (by decide +kernel) rfl ?_
    refine zG_alen (v := 44) rfl (by decide +kernel) rfl ?_
    refine zG_run t_Mod [(.iconst 2, 0, 0)] (16, [some (zr (some (71, 345))), some (zi v1)], [zi 2, zi 44, zr (some (71, 345)), zi v1, zr (some (71, 345))], h) (by decide +kernel) rfl ?_
    refine zG_idivc (by decide +kernel) (by decide) ?_
    refine zG_run t_Mod [(.iload_n 1, 0, 0), (.iadd, 0, 0)] (19, [some (zr (some (71, 345))), some (zi v1)], [zi ((44 / 2) + v1), zr (some (71, 345)), zi v1, zr (some (71, 345))], h) (by decide +kernel) rfl ?_
    refine zG_ald (v := zi (h.1 345 ((44 / 2) + v1).toNatClampNeg)) (n := 44) rfl (by decide +kernel) rfl rfl fun hb1 => ?_
    refine zG_guard fun hb3 => ?_
    refine zG_bind (fun y => (21, [some (zr (some (71, 345))), some (zi v1)], [], y)) (zG_astc (h' := zsI h 345 v1.toNatClampNeg (h.1 345 ((44 / 2) + v1).toNatClampNeg)) rfl (by decide +kernel) hb3 rfl (zG_end (L' := [some (zr (some (71, 345))), some (zi v1)]) rfl (And.intro rfl (And.intro rfl trivial)))) fun h2 => ?_
    refine zG_run t_Mod [(.iinc 1 1, 0, 0), (.goto (-22), 0, 0)] (2, [some (zr (some (71, 345))), some (zi (v1 + 1))], [], h2) (by decide +kernel) rfl ?_
    exact zG_end (L' := [some (zr (some (71, 345))), some (zi (v1 + 1))]) rfl (And.intro rfl (And.intro rfl trivial))
set_option maxRecDepth 20000 in
theorem k_Mod_takeHalf_71 {l : Launch} {X : zX} (hl : l.stackTraces = false) {h : zH} : zGl l m_Mod_takeHalf_71 X 0 0 (f_Mod_takeHalf_71 h) (0, [some (zr (some (71, 345))), none], [], h) (fun x => .inr ((fun a => (.inl none, a) : zH → zF) x)) := by
  unfold f_Mod_takeHalf_71
  refine zG_run t_Mod [(.iconst 0, 0, 0), (.istore_n 1, 0, 0)] (2, [some (zr (some (71, 345))), some (zi 0)], [], h) (by decide +kernel) rfl ?_
  refine zG_forget (L' := [some (zr (some (71, 345))), some (zi 0)]) (And.intro rfl (And.intro rfl trivial)) ?_
  refine zG_bind (fun y : zH => (27, [none, none], [], y)) (zG_iter (fun s : Int32 × zH => (2, [some (zr (some (71, 345))), some (zi s.1)], [], s.2)) fun s => k_Mod_takeHalf_71_b2 hl) (fun y6 => ?_)
  exact zG_ret (r := none) rfl (zrd_v rfl (by decide +kernel))
theorem c_Mod_takeHalf_71 {l : Launch} {X : zX} (hl : l.stackTraces = false) {h : zH} {x : zH} (hx : f_Mod_takeHalf_71 h = some x) : zCt l (true, 2) 2 m_Mod_takeHalf_71 X 0 0 [zr (some (71, 345))] h ((fun a => (.inl none, a) : zH → zF) x) :=
  zG_ct (R := fun a => (.inl none, a)) (x := x) ok_Mod_takeHalf_71 hl (Nat.le_of_ble_eq_true rfl) hx (k_Mod_takeHalf_71 hl)
def m_Mod_takeHalf_72 : zM := (({ cls := "ScanPackerModel", name := "takeHalf", desc := "([I)V" } : Jvm.MethodName), prog_13_method_31_code, 2, (Option.none : Option Jvm.ClassFile.FieldType), [], 1)
theorem ok_Mod_takeHalf_72 : zMok m_Mod_takeHalf_72 := ⟨by decide +kernel, zW_of 1787 (by decide +kernel) (by decide +kernel), zW_of 134 (by decide +kernel) (by decide +kernel), by decide, by decide +kernel, by decide +kernel⟩
set_option maxRecDepth 20000 in
theorem k_Mod_takeHalf_72_b2 {l : Launch} {X : zX} (hl : l.stackTraces = false) {h : zH} {v1 : Int32} : zGl l m_Mod_takeHalf_72 X 0 0 (f_Mod_takeHalf_72_b2 h v1) (2, [some (zr (some (72, 346))), some (zi v1)], [], h) (Sum.elim (fun s : Int32 × zH => .inl (2, [some (zr (some (72, 346))), some (zi s.1)], [], s.2)) (fun y : zH => .inl (27, [none, none], [], y))) := by
  unfold f_Mod_takeHalf_72_b2
  refine zG_run t_Mod [(.iload_n 1, 0, 0), (.aload_n 0, 0, 0)] (4, [some (zr (some (72, 346))), some (zi v1)], [zr (some (72, 346)), zi v1], h) (by decide +kernel) rfl ?_
  refine zG_alen (v := 264) rfl (by decide +kernel) rfl ?_
  refine zG_run t_Mod [(.iconst 2, 0, 0)] (6, [some (zr (some (72, 346))), some (zi v1)], [zi 2, zi 264, zi v1], h) (by decide +kernel) rfl ?_
  refine zG_idivc (by decide +kernel) (by decide) ?_
  refine zG_icmp (op := .ge) (off := 20) (tgt := 27) (by decide +kernel) rfl Iff.rfl (fun c4 => ?_) (fun c4 => ?_)
  · exact zG_end (L' := [none, none]) rfl (trivial)
  · refine zG_run t_Mod [(.aload_n 0, 0, 0), (.iload_n 1, 0, 0), (.aload_n 0, 0, 0), (.aload_n 0, 0, 0)] (14, [some (zr (some (72, 346))), some (zi v1)], [zr (some (72, 346)), zr (some (72, 346)), zi v1, zr (some (72, 346))], h) (by decide +kernel) rfl ?_
    refine zG_alen (v := 264) rfl (by decide +kernel) rfl ?_
    refine zG_run t_Mod [(.iconst 2, 0, 0)] (16, [some (zr (some (72, 346))), some (zi v1)], [zi 2, zi 264, zr (some (72, 346)), zi v1, zr (some (72, 346))], h) (by decide +kernel) rfl ?_
    refine zG_idivc (by decide +kernel) (by decide) ?_
    refine zG_run t_Mod [(.iload_n 1, 0, 0), (.iadd, 0, 0)] (19, [some (zr (some (72, 346))), some (zi v1)], [zi ((264 / 2) + v1), zr (some (72, 346)), zi v1, zr (some (72, 346))], h) (by decide +kernel) rfl ?_
    refine zG_ald (v := zi (h.1 346 ((264 / 2) + v1).toNatClampNeg)) (n := 264) rfl (by decide +kernel) rfl rfl fun hb1 => ?_
    refine zG_guard fun hb3 => ?_
    refine zG_bind (fun y => (21, [some (zr (some (72, 346))), some (zi v1)], [], y)) (zG_astc (h' := zsI h 346 v1.toNatClampNeg (h.1 346 ((264 / 2) + v1).toNatClampNeg)) rfl (by decide +kernel) hb3 rfl (zG_end (L' := [some (zr (some (72, 346))), some (zi v1)]) rfl (And.intro rfl (And.intro rfl trivial)))) fun h2 => ?_
    refine zG_run t_Mod [(.iinc 1 1, 0, 0), (.goto (-22), 0, 0)] (2, [some (zr (some (72, 346))), some (zi (v1 + 1))], [], h2) (by decide +kernel) rfl ?_
    exact zG_end (L' := [some (zr (some (72, 346))), some (zi (v1 + 1))]) rfl (And.intro rfl (And.intro rfl trivial))
set_option maxRecDepth 20000 in
theorem k_Mod_takeHalf_72 {l : Launch} {X : zX} (hl : l.stackTraces = false) {h : zH} : zGl l m_Mod_takeHalf_72 X 0 0 (f_Mod_takeHalf_72 h) (0, [some (zr (some (72, 346))), none], [], h) (fun x => .inr ((fun a => (.inl none, a) : zH → zF) x)) := by
  unfold f_Mod_takeHalf_72
  refine zG_run t_Mod [(.iconst 0, 0, 0), (.istore_n 1, 0, 0)] (2, [some (zr (some (72, 346))), some (zi 0)], [], h) (by decide +kernel) rfl ?_
  refine zG_forget (L' := [some (zr (some (72, 346))), some (zi 0)]) (And.intro rfl (And.intro rfl trivial)) ?_
  refine zG_bind (fun y : zH => (27, [none, none], [], y)) (zG_iter (fun s : Int32 × zH => (2, [some (zr (some (72, 346))), some (zi s.1)], [], s.2)) fun s => k_Mod_takeHalf_72_b2 hl) (fun y6 => ?_)
  exact zG_ret (r := none) rfl (zrd_v rfl (by decide +kernel))
theorem c_Mod_takeHalf_72 {l : Launch} {X : zX} (hl : l.stackTraces = false) {h : zH} {x : zH} (hx : f_Mod_takeHalf_72 h = some x) : zCt l (true, 2) 2 m_Mod_takeHalf_72 X 0 0 [zr (some (72, 346))] h ((fun a => (.inl none, a) : zH → zF) x) :=
  zG_ct (R := fun a => (.inl none, a)) (x := x) ok_Mod_takeHalf_72 hl (Nat.le_of_ble_eq_true rfl) hx (k_Mod_takeHalf_72 hl)
def m_Mod_rows : zM := (({ cls := "ScanPackerModel", name := "rows", desc := "()I" } : Jvm.MethodName), prog_13_method_6_code, 1, (Option.some Jvm.ClassFile.FieldType.int), [], 1)
theorem ok_Mod_rows : zMok m_Mod_rows := ⟨by decide +kernel, zW_of 1397 (by decide +kernel) (by decide +kernel), zW_of 134 (by decide +kernel) (by decide +kernel), by decide, by decide +kernel, by decide +kernel⟩
set_option maxRecDepth 20000 in
theorem k_Mod_rows {l : Launch} {X : zX} (hl : l.stackTraces = false) {h : zH} : zGl l m_Mod_rows X 0 0 (f_Mod_rows h) (0, [some (zr (some (11, 333)))], [], h) (fun x => .inr ((fun a => (.inl (some (zi a)), h) : Int32 → zF) x)) := by
  unfold f_Mod_rows
  refine zG_run t_Mod [(.iconst 1, 0, 0), (.aload_n 0, 0, 0), (.getfield 40, 11, 3), (.iconst 0, 0, 0)] (6, [some (zr (some (11, 333)))], [zi 0, zr (some (62, 336)), zi 1], h) (by decide +kernel) rfl ?_
  refine zG_aldc (v := zi (h.1 336 0)) rfl (by decide +kernel) (by decide +kernel) rfl ?_
  refine zG_run t_Mod [(.ishl, 0, 0)] (8, [some (zr (some (11, 333)))], [zi (zshl 1 (h.1 336 0))], h) (by decide +kernel) rfl ?_
  exact zG_ret (r := some (zi (zshl 1 (h.1 336 0)))) rfl (zrd_i rfl (by decide +kernel))
theorem c_Mod_rows {l : Launch} {X : zX} (hl : l.stackTraces = false) {h : zH} {x : Int32} (hx : f_Mod_rows h = some x) : zCt l (true, 2) 2 m_Mod_rows X 0 0 [zr (some (11, 333))] h ((fun a => (.inl (some (zi a)), h) : Int32 → zF) x) :=
  zG_ct (R := fun a => (.inl (some (zi a)), h)) (x := x) ok_Mod_rows hl (Nat.le_of_ble_eq_true rfl) hx (k_Mod_rows hl)
def m_Mod_putRow : zM := (({ cls := "ScanPackerModel", name := "putRow", desc := "(I)V" } : Jvm.MethodName), prog_13_method_36_code, 3, (Option.none : Option Jvm.ClassFile.FieldType), [], 1)
theorem ok_Mod_putRow : zMok m_Mod_putRow := ⟨by decide +kernel, zW_of 1401 (by decide +kernel) (by decide +kernel), zW_of 134 (by decide +kernel) (by decide +kernel), by decide, by decide +kernel, by decide +kernel⟩
set_option maxRecDepth 20000 in
theorem k_Mod_putRow_b2 {l : Launch} {X : zX} (hl : l.stackTraces = false) {h : zH} {v1 : Int32} {v2 : Int32} : zGl l m_Mod_putRow X 0 0 (f_Mod_putRow_b2 h v1 v2) (2, [some (zr (some (11, 333))), some (zi v1), some (zi v2)], [], h) (Sum.elim (fun s : Int32 × zH => .inl (2, [some (zr (some (11, 333))), some (zi v1), some (zi s.1)], [], s.2)) (fun y : zH => .inl (29, [none, none, none], [], y))) := by
  unfold f_Mod_putRow_b2
  refine zG_run t_Mod [(.iload_n 2, 0, 0), (.aload_n 0, 0, 0), (.getfield 40, 11, 3), (.iconst 0, 0, 0)] (8, [some (zr (some (11, 333))), some (zi v1), some (zi v2)], [zi 0, zr (some (62, 336)), zi v2], h) (by decide +kernel) rfl ?_
  refine zG_aldc (v := zi (h.1 336 0)) rfl (by decide +kernel) (by decide +kernel) rfl ?_
  refine zG_icmp (op := .ge) (off := 20) (tgt := 29) (by decide +kernel) rfl Iff.rfl (fun c3 => ?_) (fun c3 => ?_)
  · exact zG_end (L' := [none, none, none]) rfl (trivial)
  · refine zG_run t_Mod [(.aload_n 0, 0, 0), (.getfield 87, 11, 27), (.iload_n 2, 0, 0), (.iload_n 1, 0, 0), (.iload_n 2, 0, 0), (.ishr, 0, 0), (.iconst 1, 0, 0), (.iand, 0, 0)] (22, [some (zr (some (11, 333))), some (zi v1), some (zi v2)], [zi ((zshr v1 v2) &&& 1), zi v2, zr (some (76, 350))], h) (by decide +kernel) rfl ?_
    refine zG_guard fun hb2 => ?_
    refine zG_bind (fun y => (23, [some (zr (some (11, 333))), some (zi v1), some (zi v2)], [], y)) (zG_astc (h' := zsI h 350 v2.toNatClampNeg ((zshr v1 v2) &&& 1)) rfl (by decide +kernel) hb2 rfl (zG_end (L' := [some (zr (some (11, 333))), some (zi v1), some (zi v2)]) rfl (And.intro rfl (And.intro rfl (And.intro rfl trivial))))) fun h1 => ?_
    refine zG_run t_Mod [(.iinc 2 1, 0, 0), (.goto (-24), 0, 0)] (2, [some (zr (some (11, 333))), some (zi v1), some (zi (v2 + 1))], [], h1) (by decide +kernel) rfl ?_
    exact zG_end (L' := [some (zr (some (11, 333))), some (zi v1), some (zi (v2 + 1))]) rfl (And.intro rfl (And.intro rfl (And.intro rfl trivial)))
set_option maxRecDepth 20000 in
theorem k_Mod_putRow {l : Launch} {X : zX} (hl : l.stackTraces = false) {h : zH} {v1 : Int32} : zGl l m_Mod_putRow X 0 0 (f_Mod_putRow h v1) (0, [some (zr (some (11, 333))), some (zi v1), none], [], h) (fun x => .inr ((fun a => (.inl none, a) : zH → zF) x)) := by
  unfold f_Mod_putRow
  refine zG_run t_Mod [(.iconst 0, 0, 0), (.istore_n 2, 0, 0)] (2, [some (zr (some (11, 333))), some (zi v1), some (zi 0)], [], h) (by decide +kernel) rfl ?_
  refine zG_forget (L' := [some (zr (some (11, 333))), some (zi v1), some (zi 0)]) (And.intro rfl (And.intro rfl (And.intro rfl trivial))) ?_
  refine zG_bind (fun y : zH => (29, [none, none, none], [], y)) (zG_iter (fun s : Int32 × zH => (2, [some (zr (some (11, 333))), some (zi v1), some (zi s.1)], [], s.2)) fun s => k_Mod_putRow_b2 hl) (fun y5 => ?_)
  exact zG_ret (r := none) rfl (zrd_v rfl (by decide +kernel))
theorem c_Mod_putRow {l : Launch} {X : zX} (hl : l.stackTraces = false) {h : zH} {v1 : Int32} {x : zH} (hx : f_Mod_putRow h v1 = some x) : zCt l (true, 2) 2 m_Mod_putRow X 0 0 [zr (some (11, 333)), zi v1] h ((fun a => (.inl none, a) : zH → zF) x) :=
  zG_ct (R := fun a => (.inl none, a)) (x := x) ok_Mod_putRow hl (Nat.le_of_ble_eq_true rfl) hx (k_Mod_putRow hl)
def m_Mod_lines : zM := (({ cls := "ScanPackerModel", name := "lines", desc := "()I" } : Jvm.MethodName), prog_13_method_5_code, 1, (Option.some Jvm.ClassFile.FieldType.int), [], 1)
theorem ok_Mod_lines : zMok m_Mod_lines := ⟨by decide +kernel, zW_of 1413 (by decide +kernel) (by decide +kernel), zW_of 134 (by decide +kernel) (by decide +kernel), by decide, by decide +kernel, by decide +kernel⟩
set_option maxRecDepth 20000 in
theorem k_Mod_lines {l : Launch} {X : zX} (hl : l.stackTraces = false) {h : zH} : zGl l m_Mod_lines X 0 0 (f_Mod_lines h) (0, [some (zr (some (11, 333)))], [], h) (fun x => .inr ((fun a => (.inl (some (zi a)), h) : Int32 → zF) x)) := by
  unfold f_Mod_lines
  refine zG_run t_Mod [(.aload_n 0, 0, 0), (.getfield 40, 11, 3), (.iconst 0, 0, 0)] (5, [some (zr (some (11, 333)))], [zi 0, zr (some (62, 336))], h) (by decide +kernel) rfl ?_
  refine zG_aldc (v := zi (h.1 336 0)) rfl (by decide +kernel) (by decide +kernel) rfl ?_
  refine zG_run t_Mod [(.aload_n 0, 0, 0), (.getfield 40, 11, 3), (.iconst 1, 0, 0)] (11, [some (zr (some (11, 333)))], [zi 1, zr (some (62, 336)), zi (h.1 336 0)], h) (by decide +kernel) rfl ?_
  refine zG_aldc (v := zi (h.1 336 1)) rfl (by decide +kernel) (by decide +kernel) rfl ?_
  refine zG_run t_Mod [(.iadd, 0, 0)] (13, [some (zr (some (11, 333)))], [zi ((h.1 336 0) + (h.1 336 1))], h) (by decide +kernel) rfl ?_
  exact zG_ret (r := some (zi ((h.1 336 0) + (h.1 336 1)))) rfl (zrd_i rfl (by decide +kernel))
theorem c_Mod_lines {l : Launch} {X : zX} (hl : l.stackTraces = false) {h : zH} {x : Int32} (hx : f_Mod_lines h = some x) : zCt l (true, 2) 2 m_Mod_lines X 0 0 [zr (some (11, 333))] h ((fun a => (.inl (some (zi a)), h) : Int32 → zF) x) :=
  zG_ct (R := fun a => (.inl (some (zi a)), h)) (x := x) ok_Mod_lines hl (Nat.le_of_ble_eq_true rfl) hx (k_Mod_lines hl)
def m_Mod_joined : zM := (({ cls := "ScanPackerModel", name := "joined", desc := "(I)I" } : Jvm.MethodName), prog_13_method_34_code, 8, (Option.some Jvm.ClassFile.FieldType.int), [], 1)
theorem ok_Mod_joined : zMok m_Mod_joined := ⟨by decide +kernel, zW_of 1417 (by decide +kernel) (by decide +kernel), zW_of 134 (by decide +kernel) (by decide +kernel), by decide, by decide +kernel, by decide +kernel⟩
set_option maxRecDepth 20000 in
theorem k_Mod_joined_j70 {l : Launch} {X : zX} (hl : l.stackTraces = false) {h : zH} {v1 : Int32} {v2 : Int32} {v3 : Int32} {v5 : Int32} {t0 : Int32} {t1 : Int32} : zGl l m_Mod_joined X 0 0 (f_Mod_joined_j70 h v1 v2 v3 v5 t0 t1) (70, [some (zr (some (11, 333))), some (zi v1), some (zi v2), some (zi v3), none, some (zi v5), none, none], [zi t0, zi t1], h) (Sum.elim (fun s : Int32 × Int32 × Int32 => .inl (15, [some (zr (some (11, 333))), some (zi v1), some (zi v2), some (zi s.1), some (zi s.2.1), some (zi s.2.2), none, none], [], h)) (fun y : Int32 × Int32 => .inl (79, [some (zr (some (11, 333))), some (zi v1), some (zi v2), some (zi y.1), some (zi y.2), none, none, none], [], h))) := by
  unfold f_Mod_joined_j70
  refine zG_run t_Mod [(.iadd, 0, 0), (.istore 4, 0, 0), (.iinc 5 1, 0, 0), (.goto (-61), 0, 0)] (15, [some (zr (some (11, 333))), some (zi v1), some (zi v2), some (zi v3), some (zi (t1 + t0)), some (zi (v5 + 1)), none, none], [], h) (by decide +kernel) rfl ?_
  exact zG_end (L' := [some (zr (some (11, 333))), some (zi v1), some (zi v2), some (zi v3), some (zi (t1 + t0)), some (zi (v5 + 1)), none, none]) rfl (And.intro rfl (And.intro rfl (And.intro rfl (And.intro rfl (And.intro rfl (And.intro rfl trivial))))))
set_option maxRecDepth 20000 in
theorem k_Mod_joined_j55 {l : Launch} {X : zX} (hl : l.stackTraces = false) {h : zH} {v1 : Int32} {v2 : Int32} {v4 : Int32} {v5 : Int32} {v6 : Int32} {t0 : Int32} {t1 : Int32} : zGl l m_Mod_joined X 0 0 (f_Mod_joined_j55 h v1 v2 v4 v5 v6 t0 t1) (55, [some (zr (some (11, 333))), some (zi v1), some (zi v2), none, some (zi v4), some (zi v5), some (zi v6), none], [zi t0, zi t1], h) (Sum.elim (fun s : Int32 × Int32 × Int32 => .inl (15, [some (zr (some (11, 333))), some (zi v1), some (zi v2), some (zi s.1), some (zi s.2.1), some (zi s.2.2), none, none], [], h)) (fun y : Int32 × Int32 => .inl (79, [some (zr (some (11, 333))), some (zi v1), some (zi v2), some (zi y.1), some (zi y.2), none, none, none], [], h))) := by
  unfold f_Mod_joined_j55
  refine zG_run t_Mod [(.iadd, 0, 0), (.istore_n 3, 0, 0), (.iload 4, 0, 0), (.iload 6, 0, 0), (.iconst 1, 0, 0)] (62, [some (zr (some (11, 333))), some (zi v1), some (zi v2), some (zi (t1 + t0)), some (zi v4), some (zi v5), some (zi v6), none], [zi 1, zi v6, zi v4], h) (by decide +kernel) rfl ?_
  refine zG_icmp (op := .ne) (off := 7) (tgt := 69) (by decide +kernel) rfl Iff.rfl (fun c5 => ?_) (fun c5 => ?_)
  · refine zG_run t_Mod [(.iconst 0, 0, 0)] (70, [some (zr (some (11, 333))), some (zi v1), some (zi v2), some (zi (t1 + t0)), some (zi v4), some (zi v5), some (zi v6), none], [zi 0, zi v4], h) (by decide +kernel) rfl ?_
    exact zG_forget (L' := [some (zr (some (11, 333))), some (zi v1), some (zi v2), some (zi (t1 + t0)), none, some (zi v5), none, none]) (And.intro rfl (And.intro rfl (And.intro rfl (And.intro rfl (And.intro rfl trivial))))) (k_Mod_joined_j70 hl)
  · refine zG_run t_Mod [(.iconst 1, 0, 0), (.goto 4, 0, 0)] (70, [some (zr (some (11, 333))), some (zi v1), some (zi v2), some (zi (t1 + t0)), some (zi v4), some (zi v5), some (zi v6), none], [zi 1, zi v4], h) (by decide +kernel) rfl ?_
    exact zG_forget (L' := [some (zr (some (11, 333))), some (zi v1), some (zi v2), some (zi (t1 + t0)), none, some (zi v5), none, none]) (And.intro rfl (And.intro rfl (And.intro rfl (And.intro rfl (And.intro rfl trivial))))) (k_Mod_joined_j70 hl)
set_option maxRecDepth 20000 in
theorem k_Mod_joined_b15 {l : Launch} {X : zX} (hl : l.stackTraces = false) {h : zH} {v1 : Int32} {v2 : Int32} {v3 : Int32} {v4 : Int32} {v5 : Int32} : zGl l m_Mod_joined X 0 0 (f_Mod_joined_b15 h v1 v2 v3 v4 v5) (15, [some (zr (some (11, 333))), some (zi v1), some (zi v2), some (zi v3), some (zi v4), some (zi v5), none, none], [], h) (Sum.elim (fun s : Int32 × Int32 × Int32 => .inl (15, [some (zr (some (11, 333))), some (zi v1), some (zi v2), some (zi s.1), some (zi s.2.1), some (zi s.2.2), none, none], [], h)) (fun y : Int32 × Int32 => .inl (79, [some (zr (some (11, 333))), some (zi v1), some (zi v2), some (zi y.1), some (zi y.2), none, none, none], [], h))) := by
  unfold f_Mod_joined_b15
  refine zG_run t_Mod [(.iload 5, 0, 0), (.aload_n 0, 0, 0), (.getfield 47, 11, 5), (.iload_n 1, 0, 0)] (22, [some (zr (some (11, 333))), some (zi v1), some (zi v2), some (zi v3), some (zi v4), some (zi v5), none, none], [zi v1, zr (some (64, 338)), zi v5], h) (by decide +kernel) rfl ?_
  refine zG_ald (v := zi (h.1 338 v1.toNatClampNeg)) (n := 44) rfl (by decide +kernel) rfl rfl fun hb2 => ?_
  refine zG_icmp (op := .ge) (off := 56) (tgt := 79) (by decide +kernel) rfl Iff.rfl (fun c7 => ?_) (fun c7 => ?_)
  · exact zG_end (L' := [some (zr (some (11, 333))), some (zi v1), some (zi v2), some (zi v3), some (zi v4), none, none, none]) rfl (And.intro rfl (And.intro rfl (And.intro rfl (And.intro rfl (And.intro rfl trivial)))))
  · refine zG_run t_Mod [(.aload_n 0, 0, 0), (.getfield 90, 11, 28), (.aload_n 0, 0, 0), (.getfield 50, 11, 6), (.iconst 3, 0, 0), (.iload_n 1, 0, 0), (.imul, 0, 0), (.iload 5, 0, 0), (.iadd, 0, 0)] (40, [some (zr (some (11, 333))), some (zi v1), some (zi v2), some (zi v3), some (zi v4), some (zi v5), none, none], [zi ((3 * v1) + v5), zr (some (65, 339)), zr (some (77, 351))], h) (by decide +kernel) rfl ?_
    refine zG_ald (v := zi (h.1 339 ((3 * v1) + v5).toNatClampNeg)) (n := 132) rfl (by decide +kernel) rfl rfl fun hb3 => ?_
    refine zG_ald (v := zi (h.1 351 (h.1 339 ((3 * v1) + v5).toNatClampNeg).toNatClampNeg)) (n := 22) rfl (by decide +kernel) rfl rfl fun hb4 => ?_
    refine zG_run t_Mod [(.istore 6, 0, 0), (.iload_n 3, 0, 0), (.iload 6, 0, 0)] (47, [some (zr (some (11, 333))), some (zi v1), some (zi v2), some (zi v3), some (zi v4), some (zi v5), some (zi (h.1 351 (h.1 339 ((3 * v1) + v5).toNatClampNeg).toNatClampNeg)), none], [zi (h.1 351 (h.1 339 ((3 * v1) + v5).toNatClampNeg).toNatClampNeg), zi v3], h) (by decide +kernel) rfl ?_
    refine zG_if (op := .ne) (off := 7) (tgt := 54) (by decide +kernel) rfl Iff.rfl (fun c6 => ?_) (fun c6 => ?_)
    · refine zG_run t_Mod [(.iconst 0, 0, 0)] (55, [some (zr (some (11, 333))), some (zi v1), some (zi v2), some (zi v3), some (zi v4), some (zi v5), some (zi (h.1 351 (h.1 339 ((3 * v1) + v5).toNatClampNeg).toNatClampNeg)), none], [zi 0, zi v3], h) (by decide +kernel) rfl ?_
      exact zG_forget (L' := [some (zr (some (11, 333))), some (zi v1), some (zi v2), none, some (zi v4), some (zi v5), some (zi (h.1 351 (h.1 339 ((3 * v1) + v5).toNatClampNeg).toNatClampNeg)), none]) (And.intro rfl (And.intro rfl (And.intro rfl (And.intro rfl (And.intro rfl (And.intro rfl trivial)))))) (k_Mod_joined_j55 hl)
    · refine zG_run t_Mod [(.iconst 1, 0, 0), (.goto 4, 0, 0)] (55, [some (zr (some (11, 333))), some (zi v1), some (zi v2), some (zi v3), some (zi v4), some (zi v5), some (zi (h.1 351 (h.1 339 ((3 * v1) + v5).toNatClampNeg).toNatClampNeg)), none], [zi 1, zi v3], h) (by decide +kernel) rfl ?_
      exact zG_forget (L' := [some (zr (some (11, 333))), some (zi v1), some (zi v2), none, some (zi v4), some (zi v5), some (zi (h.1 351 (h.1 339 ((3 * v1) + v5).toNatClampNeg).toNatClampNeg)), none]) (And.intro rfl (And.intro rfl (And.intro rfl (And.intro rfl (And.intro rfl (And.intro rfl trivial)))))) (k_Mod_joined_j55 hl)
set_option maxRecDepth 20000 in
theorem k_Mod_joined_j205 {l : Launch} {X : zX} (hl : l.stackTraces = false) {h : zH} {v6 : Int32} {t0 : Int32} : zGl l m_Mod_joined X 0 0 (f_Mod_joined_j205 h v6 t0) (205, [none, none, none, none, none, none, some (zi v6), none], [zi t0], h) (fun x => .inr ((fun a => (.inl (some (zi a)), h) : Int32 → zF) x)) := by
  unfold f_Mod_joined_j205
  refine zG_run t_Mod [(.istore 7, 0, 0), (.iload 7, 0, 0)] (209, [none, none, none, none, none, none, some (zi v6), some (zi t0)], [zi t0], h) (by decide +kernel) rfl ?_
  refine zG_if (op := .eq) (off := 16) (tgt := 225) (by decide +kernel) rfl Iff.rfl (fun c12 => ?_) (fun c12 => ?_)
  · refine zG_run t_Mod [(.iload 6, 0, 0)] (227, [none, none, none, none, none, none, some (zi v6), some (zi t0)], [zi v6], h) (by decide +kernel) rfl ?_
    exact zG_ret (r := some (zi v6)) rfl (zrd_i rfl (by decide +kernel))
  · refine zG_run t_Mod [(.iload 6, 0, 0), (.iconst 2, 0, 0)] (215, [none, none, none, none, none, none, some (zi v6), some (zi t0)], [zi 2, zi v6], h) (by decide +kernel) rfl ?_
    refine zG_icmp (op := .eq) (off := 10) (tgt := 225) (by decide +kernel) rfl Iff.rfl (fun c11 => ?_) (fun c11 => ?_)
    · refine zG_run t_Mod [(.iload 6, 0, 0)] (227, [none, none, none, none, none, none, some (zi v6), some (zi t0)], [zi v6], h) (by decide +kernel) rfl ?_
      exact zG_ret (r := some (zi v6)) rfl (zrd_i rfl (by decide +kernel))
    · refine zG_run t_Mod [(.iconst 1, 0, 0), (.iload 6, 0, 0), (.isub, 0, 0), (.goto 5, 0, 0)] (227, [none, none, none, none, none, none, some (zi v6), some (zi t0)], [zi (1 - v6)], h) (by decide +kernel) rfl ?_
      exact zG_ret (r := some (zi (1 - v6))) rfl (zrd_i rfl (by decide +kernel))
set_option maxRecDepth 20000 in
theorem k_Mod_joined_j191 {l : Launch} {X : zX} (hl : l.stackTraces = false) {h : zH} {v2 : Int32} {v6 : Int32} : zGl l m_Mod_joined X 0 0 (f_Mod_joined_j191 h v2 v6) (191, [none, none, some (zi v2), none, none, none, some (zi v6), none], [], h) (fun x => .inr ((fun a => (.inl (some (zi a)), h) : Int32 → zF) x)) := by
  unfold f_Mod_joined_j191
  refine zG_run t_Mod [(.iload_n 2, 0, 0)] (192, [none, none, some (zi v2), none, none, none, some (zi v6), none], [zi v2], h) (by decide +kernel) rfl ?_
  refine zG_if (op := .eq) (off := 8) (tgt := 200) (by decide +kernel) rfl Iff.rfl (fun c14 => ?_) (fun c14 => ?_)
  · refine zG_run t_Mod [(.iconst 1, 0, 0), (.goto 4, 0, 0)] (205, [none, none, some (zi v2), none, none, none, some (zi v6), none], [zi 1], h) (by decide +kernel) rfl ?_
    exact zG_forget (L' := [none, none, none, none, none, none, some (zi v6), none]) (And.intro rfl trivial) (k_Mod_joined_j205 hl)
  · refine zG_run t_Mod [(.iload_n 2, 0, 0), (.iconst 3, 0, 0)] (197, [none, none, some (zi v2), none, none, none, some (zi v6), none], [zi 3, zi v2], h) (by decide +kernel) rfl ?_
    refine zG_icmp (op := .le) (off := 7) (tgt := 204) (by decide +kernel) rfl Iff.rfl (fun c13 => ?_) (fun c13 => ?_)
    · refine zG_run t_Mod [(.iconst 0, 0, 0)] (205, [none, none, some (zi v2), none, none, none, some (zi v6), none], [zi 0], h) (by decide +kernel) rfl ?_
      exact zG_forget (L' := [none, none, none, none, none, none, some (zi v6), none]) (And.intro rfl trivial) (k_Mod_joined_j205 hl)
    · refine zG_run t_Mod [(.iconst 1, 0, 0), (.goto 4, 0, 0)] (205, [none, none, some (zi v2), none, none, none, some (zi v6), none], [zi 1], h) (by decide +kernel) rfl ?_
      exact zG_forget (L' := [none, none, none, none, none, none, some (zi v6), none]) (And.intro rfl trivial) (k_Mod_joined_j205 hl)
set_option maxRecDepth 20000 in
theorem k_Mod_joined_j165 {l : Launch} {X : zX} (hl : l.stackTraces = false) {h : zH} {v2 : Int32} {t0 : Int32} : zGl l m_Mod_joined X 0 0 (f_Mod_joined_j165 h v2 t0) (165, [none, none, some (zi v2), none, none, none, none, none], [zi t0], h) (fun x => .inr ((fun a => (.inl (some (zi a)), h) : Int32 → zF) x)) := by
  unfold f_Mod_joined_j165
  refine zG_run t_Mod [(.istore 6, 0, 0), (.goto 24, 0, 0)] (191, [none, none, some (zi v2), none, none, none, some (zi t0), none], [], h) (by decide +kernel) rfl ?_
  exact zG_forget (L' := [none, none, some (zi v2), none, none, none, some (zi t0), none]) (And.intro rfl (And.intro rfl trivial)) (k_Mod_joined_j191 hl)
set_option maxRecDepth 20000 in
theorem k_Mod_joined_j147 {l : Launch} {X : zX} (hl : l.stackTraces = false) {h : zH} {v2 : Int32} {v3 : Int32} {v5 : Int32} : zGl l m_Mod_joined X 0 0 (f_Mod_joined_j147 h v2 v3 v5) (147, [none, none, some (zi v2), some (zi v3), none, some (zi v5), none, none], [], h) (fun x => .inr ((fun a => (.inl (some (zi a)), h) : Int32 → zF) x)) := by
  unfold f_Mod_joined_j147
  refine zG_run t_Mod [(.iload_n 3, 0, 0)] (148, [none, none, some (zi v2), some (zi v3), none, some (zi v5), none, none], [zi v3], h) (by decide +kernel) rfl ?_
  refine zG_if (op := .le) (off := 7) (tgt := 155) (by decide +kernel) rfl Iff.rfl (fun c16 => ?_) (fun c16 => ?_)
  · refine zG_run t_Mod [(.iload 5, 0, 0)] (157, [none, none, some (zi v2), some (zi v3), none, some (zi v5), none, none], [zi v5], h) (by decide +kernel) rfl ?_
    refine zG_if (op := .le) (off := 7) (tgt := 164) (by decide +kernel) rfl Iff.rfl (fun c15 => ?_) (fun c15 => ?_)
    · refine zG_run t_Mod [(.iconst 1, 0, 0)] (165, [none, none, some (zi v2), some (zi v3), none, some (zi v5), none, none], [zi 1], h) (by decide +kernel) rfl ?_
      exact zG_forget (L' := [none, none, some (zi v2), none, none, none, none, none]) (And.intro rfl trivial) (k_Mod_joined_j165 hl)
    · refine zG_run t_Mod [(.iconst 2, 0, 0), (.goto 4, 0, 0)] (165, [none, none, some (zi v2), some (zi v3), none, some (zi v5), none, none], [zi 2], h) (by decide +kernel) rfl ?_
      exact zG_forget (L' := [none, none, some (zi v2), none, none, none, none, none]) (And.intro rfl trivial) (k_Mod_joined_j165 hl)
  · refine zG_run t_Mod [(.iconst 0, 0, 0), (.goto 13, 0, 0)] (165, [none, none, some (zi v2), some (zi v3), none, some (zi v5), none, none], [zi 0], h) (by decide +kernel) rfl ?_
    exact zG_forget (L' := [none, none, some (zi v2), none, none, none, none, none]) (And.intro rfl trivial) (k_Mod_joined_j165 hl)
set_option maxRecDepth 20000 in
theorem k_Mod_joined_j189 {l : Launch} {X : zX} (hl : l.stackTraces = false) {h : zH} {v2 : Int32} {t0 : Int32} : zGl l m_Mod_joined X 0 0 (f_Mod_joined_j189 h v2 t0) (189, [none, none, some (zi v2), none, none, none, none, none], [zi t0], h) (fun x => .inr ((fun a => (.inl (some (zi a)), h) : Int32 → zF) x)) := by
  unfold f_Mod_joined_j189
  refine zG_run t_Mod [(.istore 6, 0, 0)] (191, [none, none, some (zi v2), none, none, none, some (zi t0), none], [], h) (by decide +kernel) rfl ?_
  exact zG_forget (L' := [none, none, some (zi v2), none, none, none, some (zi t0), none]) (And.intro rfl (And.intro rfl trivial)) (k_Mod_joined_j191 hl)
set_option maxRecDepth 20000 in
theorem k_Mod_joined_j132 {l : Launch} {X : zX} (hl : l.stackTraces = false) {h : zH} {v2 : Int32} {t0 : Int32} : zGl l m_Mod_joined X 0 0 (f_Mod_joined_j132 h v2 t0) (132, [none, none, some (zi v2), none, none, none, none, none], [zi t0], h) (fun x => .inr ((fun a => (.inl (some (zi a)), h) : Int32 → zF) x)) := by
  unfold f_Mod_joined_j132
  refine zG_run t_Mod [(.istore 6, 0, 0), (.goto 57, 0, 0)] (191, [none, none, some (zi v2), none, none, none, some (zi t0), none], [], h) (by decide +kernel) rfl ?_
  exact zG_forget (L' := [none, none, some (zi v2), none, none, none, some (zi t0), none]) (And.intro rfl (And.intro rfl trivial)) (k_Mod_joined_j191 hl)
set_option maxRecDepth 20000 in
theorem k_Mod_joined {l : Launch} {X : zX} (hl : l.stackTraces = false) {h : zH} {v1 : Int32} : zGl l m_Mod_joined X 0 0 (f_Mod_joined h v1) (0, [some (zr (some (11, 333))), some (zi v1), none, none, none, none, none, none], [], h) (fun x => .inr ((fun a => (.inl (some (zi a)), h) : Int32 → zF) x)) := by
  unfold f_Mod_joined
  refine zG_run t_Mod [(.aload_n 0, 0, 0), (.getfield 44, 11, 4), (.iload_n 1, 0, 0)] (5, [some (zr (some (11, 333))), some (zi v1), none, none, none, none, none, none], [zi v1, zr (some (63, 337))], h) (by decide +kernel) rfl ?_
  refine zG_ald (v := zi (h.1 337 v1.toNatClampNeg)) (n := 44) rfl (by decide +kernel) rfl rfl fun hb1 => ?_
  refine zG_run t_Mod [(.istore_n 2, 0, 0), (.iconst 0, 0, 0), (.istore_n 3, 0, 0), (.iconst 0, 0, 0), (.istore 4, 0, 0), (.iconst 0, 0, 0), (.istore 5, 0, 0)] (15, [some (zr (some (11, 333))), some (zi v1), some (zi (h.1 337 v1.toNatClampNeg)), some (zi 0), some (zi 0), some (zi 0), none, none], [], h) (by decide +kernel) rfl ?_
  refine zG_forget (L' := [some (zr (some (11, 333))), some (zi v1), some (zi (h.1 337 v1.toNatClampNeg)), some (zi 0), some (zi 0), some (zi 0), none, none]) (And.intro rfl (And.intro rfl (And.intro rfl (And.intro rfl (And.intro rfl (And.intro rfl trivial)))))) ?_
  refine zG_bind (fun y : Int32 × Int32 => (79, [some (zr (some (11, 333))), some (zi v1), some (zi (h.1 337 v1.toNatClampNeg)), some (zi y.1), some (zi y.2), none, none, none], [], h)) (zG_iter (fun s : Int32 × Int32 × Int32 => (15, [some (zr (some (11, 333))), some (zi v1), some (zi (h.1 337 v1.toNatClampNeg)), some (zi s.1), some (zi s.2.1), some (zi s.2.2), none, none], [], h)) fun s => k_Mod_joined_b15 hl) (fun y9 => ?_)
  refine zG_run t_Mod [(.aload_n 0, 0, 0), (.getfield 47, 11, 5), (.iload_n 1, 0, 0)] (84, [some (zr (some (11, 333))), some (zi v1), some (zi (h.1 337 v1.toNatClampNeg)), some (zi y9.1), some (zi y9.2), none, none, none], [zi v1, zr (some (64, 338))], h) (by decide +kernel) rfl ?_
  refine zG_ald (v := zi (h.1 338 v1.toNatClampNeg)) (n := 44) rfl (by decide +kernel) rfl rfl fun hb10 => ?_
  refine zG_run t_Mod [(.iload_n 3, 0, 0), (.isub, 0, 0), (.iload 4, 0, 0), (.isub, 0, 0), (.istore 5, 0, 0), (.iload_n 2, 0, 0)] (93, [some (zr (some (11, 333))), some (zi v1), some (zi (h.1 337 v1.toNatClampNeg)), some (zi y9.1), some (zi y9.2), some (zi (((h.1 338 v1.toNatClampNeg) - y9.1) - y9.2)), none, none], [zi (h.1 337 v1.toNatClampNeg)], h) (by decide +kernel) rfl ?_
  refine zG_if (op := .ne) (off := 21) (tgt := 114) (by decide +kernel) rfl Iff.rfl (fun c25 => ?_) (fun c25 => ?_)
  · refine zG_run t_Mod [(.iload_n 2, 0, 0), (.iconst 3, 0, 0)] (116, [some (zr (some (11, 333))), some (zi v1), some (zi (h.1 337 v1.toNatClampNeg)), some (zi y9.1), some (zi y9.2), some (zi (((h.1 338 v1.toNatClampNeg) - y9.1) - y9.2)), none, none], [zi 3, zi (h.1 337 v1.toNatClampNeg)], h) (by decide +kernel) rfl ?_
    refine zG_icmp (op := .ne) (off := 21) (tgt := 137) (by decide +kernel) rfl Iff.rfl (fun c22 => ?_) (fun c22 => ?_)
    · refine zG_run t_Mod [(.iload_n 2, 0, 0), (.iconst 1, 0, 0)] (139, [some (zr (some (11, 333))), some (zi v1), some (zi (h.1 337 v1.toNatClampNeg)), some (zi y9.1), some (zi y9.2), some (zi (((h.1 338 v1.toNatClampNeg) - y9.1) - y9.2)), none, none], [zi 1, zi (h.1 337 v1.toNatClampNeg)], h) (by decide +kernel) rfl ?_
      refine zG_icmp (op := .eq) (off := 8) (tgt := 147) (by decide +kernel) rfl Iff.rfl (fun c20 => ?_) (fun c20 => ?_)
      · exact zG_forget (L' := [none, none, some (zi (h.1 337 v1.toNatClampNeg)), some (zi y9.1), none, some (zi (((h.1 338 v1.toNatClampNeg) - y9.1) - y9.2)), none, none]) (And.intro rfl (And.intro rfl (And.intro rfl trivial))) (k_Mod_joined_j147 hl)
      · refine zG_run t_Mod [(.iload_n 2, 0, 0), (.iconst 4, 0, 0)] (144, [some (zr (some (11, 333))), some (zi v1), some (zi (h.1 337 v1.toNatClampNeg)), some (zi y9.1), some (zi y9.2), some (zi (((h.1 338 v1.toNatClampNeg) - y9.1) - y9.2)), none, none], [zi 4, zi (h.1 337 v1.toNatClampNeg)], h) (by decide +kernel) rfl ?_
        refine zG_icmp (op := .ne) (off := 26) (tgt := 170) (by decide +kernel) rfl Iff.rfl (fun c19 => ?_) (fun c19 => ?_)
        · refine zG_run t_Mod [(.iload 4, 0, 0)] (172, [some (zr (some (11, 333))), some (zi v1), some (zi (h.1 337 v1.toNatClampNeg)), some (zi y9.1), some (zi y9.2), some (zi (((h.1 338 v1.toNatClampNeg) - y9.1) - y9.2)), none, none], [zi y9.2], h) (by decide +kernel) rfl ?_
          refine zG_if (op := .le) (off := 7) (tgt := 179) (by decide +kernel) rfl Iff.rfl (fun c18 => ?_) (fun c18 => ?_)
          · refine zG_run t_Mod [(.iload 5, 0, 0)] (181, [some (zr (some (11, 333))), some (zi v1), some (zi (h.1 337 v1.toNatClampNeg)), some (zi y9.1), some (zi y9.2), some (zi (((h.1 338 v1.toNatClampNeg) - y9.1) - y9.2)), none, none], [zi (((h.1 338 v1.toNatClampNeg) - y9.1) - y9.2)], h) (by decide +kernel) rfl ?_
            refine zG_if (op := .le) (off := 7) (tgt := 188) (by decide +kernel) rfl Iff.rfl (fun c17 => ?_) (fun c17 => ?_)
            · refine zG_run t_Mod [(.iconst 0, 0, 0)] (189, [some (zr (some (11, 333))), some (zi v1), some (zi (h.1 337 v1.toNatClampNeg)), some (zi y9.1), some (zi y9.2), some (zi (((h.1 338 v1.toNatClampNeg) - y9.1) - y9.2)), none, none], [zi 0], h) (by decide +kernel) rfl ?_
              exact zG_forget (L' := [none, none, some (zi (h.1 337 v1.toNatClampNeg)), none, none, none, none, none]) (And.intro rfl trivial) (k_Mod_joined_j189 hl)
            · refine zG_run t_Mod [(.iconst 2, 0, 0), (.goto 4, 0, 0)] (189, [some (zr (some (11, 333))), some (zi v1), some (zi (h.1 337 v1.toNatClampNeg)), some (zi y9.1), some (zi y9.2), some (zi (((h.1 338 v1.toNatClampNeg) - y9.1) - y9.2)), none, none], [zi 2], h) (by decide +kernel) rfl ?_
              exact zG_forget (L' := [none, none, some (zi (h.1 337 v1.toNatClampNeg)), none, none, none, none, none]) (And.intro rfl trivial) (k_Mod_joined_j189 hl)
          · refine zG_run t_Mod [(.iconst 1, 0, 0), (.goto 13, 0, 0)] (189, [some (zr (some (11, 333))), some (zi v1), some (zi (h.1 337 v1.toNatClampNeg)), some (zi y9.1), some (zi y9.2), some (zi (((h.1 338 v1.toNatClampNeg) - y9.1) - y9.2)), none, none], [zi 1], h) (by decide +kernel) rfl ?_
            exact zG_forget (L' := [none, none, some (zi (h.1 337 v1.toNatClampNeg)), none, none, none, none, none]) (And.intro rfl trivial) (k_Mod_joined_j189 hl)
        · exact zG_forget (L' := [none, none, some (zi (h.1 337 v1.toNatClampNeg)), some (zi y9.1), none, some (zi (((h.1 338 v1.toNatClampNeg) - y9.1) - y9.2)), none, none]) (And.intro rfl (And.intro rfl (And.intro rfl trivial))) (k_Mod_joined_j147 hl)
    · refine zG_run t_Mod [(.iload 5, 0, 0)] (121, [some (zr (some (11, 333))), some (zi v1), some (zi (h.1 337 v1.toNatClampNeg)), some (zi y9.1), some (zi y9.2), some (zi (((h.1 338 v1.toNatClampNeg) - y9.1) - y9.2)), none, none], [zi (((h.1 338 v1.toNatClampNeg) - y9.1) - y9.2)], h) (by decide +kernel) rfl ?_
      refine zG_if (op := .le) (off := 7) (tgt := 128) (by decide +kernel) rfl Iff.rfl (fun c21 => ?_) (fun c21 => ?_)
      · refine zG_run t_Mod [(.iload 4, 0, 0), (.iconst 2, 0, 0)] (131, [some (zr (some (11, 333))), some (zi v1), some (zi (h.1 337 v1.toNatClampNeg)), some (zi y9.1), some (zi y9.2), some (zi (((h.1 338 v1.toNatClampNeg) - y9.1) - y9.2)), none, none], [zi 2, zi y9.2], h) (by decide +kernel) rfl ?_
        refine zG_iremc (by decide +kernel) (by decide) ?_
        exact zG_forget (L' := [none, none, some (zi (h.1 337 v1.toNatClampNeg)), none, none, none, none, none]) (And.intro rfl trivial) (k_Mod_joined_j132 hl)
      · refine zG_run t_Mod [(.iconst 2, 0, 0), (.goto 7, 0, 0)] (132, [some (zr (some (11, 333))), some (zi v1), some (zi (h.1 337 v1.toNatClampNeg)), some (zi y9.1), some (zi y9.2), some (zi (((h.1 338 v1.toNatClampNeg) - y9.1) - y9.2)), none, none], [zi 2], h) (by decide +kernel) rfl ?_
        exact zG_forget (L' := [none, none, some (zi (h.1 337 v1.toNatClampNeg)), none, none, none, none, none]) (And.intro rfl trivial) (k_Mod_joined_j132 hl)
  · refine zG_run t_Mod [(.aload_n 0, 0, 0), (.getfield 90, 11, 28), (.aload_n 0, 0, 0), (.getfield 50, 11, 6), (.iconst 3, 0, 0), (.iload_n 1, 0, 0), (.imul, 0, 0)] (107, [some (zr (some (11, 333))), some (zi v1), some (zi (h.1 337 v1.toNatClampNeg)), some (zi y9.1), some (zi y9.2), some (zi (((h.1 338 v1.toNatClampNeg) - y9.1) - y9.2)), none, none], [zi (3 * v1), zr (some (65, 339)), zr (some (77, 351))], h) (by decide +kernel) rfl ?_
    refine zG_ald (v := zi (h.1 339 (3 * v1).toNatClampNeg)) (n := 132) rfl (by decide +kernel) rfl rfl fun hb23 => ?_
    refine zG_ald (v := zi (h.1 351 (h.1 339 (3 * v1).toNatClampNeg).toNatClampNeg)) (n := 22) rfl (by decide +kernel) rfl rfl fun hb24 => ?_
    refine zG_run t_Mod [(.istore 6, 0, 0), (.goto 80, 0, 0)] (191, [some (zr (some (11, 333))), some (zi v1), some (zi (h.1 337 v1.toNatClampNeg)), some (zi y9.1), some (zi y9.2), some (zi (((h.1 338 v1.toNatClampNeg) - y9.1) - y9.2)), some (zi (h.1 351 (h.1 339 (3 * v1).toNatClampNeg).toNatClampNeg)), none], [], h) (by decide +kernel) rfl ?_
    exact zG_forget (L' := [none, none, some (zi (h.1 337 v1.toNatClampNeg)), none, none, none, some (zi (h.1 351 (h.1 339 (3 * v1).toNatClampNeg).toNatClampNeg)), none]) (And.intro rfl (And.intro rfl trivial)) (k_Mod_joined_j191 hl)
theorem c_Mod_joined {l : Launch} {X : zX} (hl : l.stackTraces = false) {h : zH} {v1 : Int32} {x : Int32} (hx : f_Mod_joined h v1 = some x) : zCt l (true, 2) 2 m_Mod_joined X 0 0 [zr (some (11, 333)), zi v1] h ((fun a => (.inl (some (zi a)), h) : Int32 → zF) x) :=
  zG_ct (R := fun a => (.inl (some (zi a)), h)) (x := x) ok_Mod_joined hl (Nat.le_of_ble_eq_true rfl) hx (k_Mod_joined hl)
def m_Mod_tellLines : zM := (({ cls := "ScanPackerModel", name := "tellLines", desc := "(I)V" } : Jvm.MethodName), prog_13_method_35_code, 3, (Option.none : Option Jvm.ClassFile.FieldType), [], 2)
theorem ok_Mod_tellLines : zMok m_Mod_tellLines := ⟨by decide +kernel, zW_of 1409 (by decide +kernel) (by decide +kernel), zW_of 134 (by decide +kernel) (by decide +kernel), by decide, by decide +kernel, by decide +kernel⟩
set_option maxRecDepth 20000 in
theorem k_Mod_tellLines_j39 {l : Launch} {X : zX} (hl : l.stackTraces = false) {h : zH} {v1 : Int32} {v2 : Int32} {t0 : Int32} {t1 : Int32} : zGl l m_Mod_tellLines X 0 0 (f_Mod_tellLines_j39 h v1 v2 t0 t1) (39, [some (zr (some (11, 333))), some (zi v1), some (zi v2)], [zi t0, zi t1, zr (some (77, 351))], h) (Sum.elim (fun s : Int32 × zH => .inl (2, [some (zr (some (11, 333))), some (zi v1), some (zi s.1)], [], s.2)) (fun y : zH => .inl (67, [none, none, none], [], y))) := by
  unfold f_Mod_tellLines_j39
  refine zG_guard fun hb4 => ?_
  refine zG_bind (fun y => (40, [some (zr (some (11, 333))), some (zi v1), some (zi v2)], [], y)) (zG_astc (h' := zsI h 351 t1.toNatClampNeg t0) rfl (by decide +kernel) hb4 rfl (zG_end (L' := [some (zr (some (11, 333))), some (zi v1), some (zi v2)]) rfl (And.intro rfl (And.intro rfl (And.intro rfl trivial))))) fun h3 => ?_
  refine zG_run t_Mod [(.iload_n 1, 0, 0), (.iconst (-1), 0, 0)] (42, [some (zr (some (11, 333))), some (zi v1), some (zi v2)], [zi (-1), zi v1], h3) (by decide +kernel) rfl ?_
  refine zG_icmp (op := .eq) (off := 19) (tgt := 61) (by decide +kernel) rfl Iff.rfl (fun c8 => ?_) (fun c8 => ?_)
  · refine zG_run t_Mod [(.iinc 2 1, 0, 0), (.goto (-62), 0, 0)] (2, [some (zr (some (11, 333))), some (zi v1), some (zi (v2 + 1))], [], h3) (by decide +kernel) rfl ?_
    exact zG_end (L' := [some (zr (some (11, 333))), some (zi v1), some (zi (v2 + 1))]) rfl (And.intro rfl (And.intro rfl (And.intro rfl trivial)))
  · refine zG_run t_Mod [(.iload_n 2, 0, 0), (.iload_n 1, 0, 0), (.iconst 2, 0, 0)] (48, [some (zr (some (11, 333))), some (zi v1), some (zi v2)], [zi 2, zi v1, zi v2], h3) (by decide +kernel) rfl ?_
    refine zG_idivc (by decide +kernel) (by decide) ?_
    refine zG_icmp (op := .ne) (off := 12) (tgt := 61) (by decide +kernel) rfl Iff.rfl (fun c7 => ?_) (fun c7 => ?_)
    · refine zG_run t_Mod [(.iinc 2 1, 0, 0), (.goto (-62), 0, 0)] (2, [some (zr (some (11, 333))), some (zi v1), some (zi (v2 + 1))], [], h3) (by decide +kernel) rfl ?_
      exact zG_end (L' := [some (zr (some (11, 333))), some (zi v1), some (zi (v2 + 1))]) rfl (And.intro rfl (And.intro rfl (And.intro rfl trivial)))
    · refine zG_run t_Mod [(.aload_n 0, 0, 0), (.getfield 90, 11, 28), (.iload_n 2, 0, 0), (.iload_n 1, 0, 0), (.iconst 2, 0, 0)] (59, [some (zr (some (11, 333))), some (zi v1), some (zi v2)], [zi 2, zi v1, zi v2, zr (some (77, 351))], h3) (by decide +kernel) rfl ?_
      refine zG_iremc (by decide +kernel) (by decide) ?_
      refine zG_guard fun hb6 => ?_
      refine zG_bind (fun y => (61, [some (zr (some (11, 333))), some (zi v1), some (zi v2)], [], y)) (zG_astc (h' := zsI h3 351 v2.toNatClampNeg (zrem v1 2)) rfl (by decide +kernel) hb6 rfl (zG_end (L' := [some (zr (some (11, 333))), some (zi v1), some (zi v2)]) rfl (And.intro rfl (And.intro rfl (And.intro rfl trivial))))) fun h5 => ?_
      refine zG_run t_Mod [(.iinc 2 1, 0, 0), (.goto (-62), 0, 0)] (2, [some (zr (some (11, 333))), some (zi v1), some (zi (v2 + 1))], [], h5) (by decide +kernel) rfl ?_
      exact zG_end (L' := [some (zr (some (11, 333))), some (zi v1), some (zi (v2 + 1))]) rfl (And.intro rfl (And.intro rfl (And.intro rfl trivial)))
set_option maxRecDepth 20000 in
theorem k_Mod_tellLines_b2 {l : Launch} {X : zX} (hl : l.stackTraces = false) {h : zH} {v1 : Int32} {v2 : Int32} : zGl l m_Mod_tellLines X 0 0 (f_Mod_tellLines_b2 h v1 v2) (2, [some (zr (some (11, 333))), some (zi v1), some (zi v2)], [], h) (Sum.elim (fun s : Int32 × zH => .inl (2, [some (zr (some (11, 333))), some (zi v1), some (zi s.1)], [], s.2)) (fun y : zH => .inl (67, [none, none, none], [], y))) := by
  unfold f_Mod_tellLines_b2
  refine zG_run t_Mod [(.iload_n 2, 0, 0), (.aload_n 0, 0, 0)] (4, [some (zr (some (11, 333))), some (zi v1), some (zi v2)], [zr (some (11, 333)), zi v2], h) (by decide +kernel) rfl ?_
  refine zG_callV (idx := 311) (R := (fun a => (some (zi a), h))) (as := []) (rest := [zi v2]) (n := 0) (fun a ha => c_Mod_lines hl ha) (by decide +kernel) ⟨ok_Mod_lines, by decide, by decide +kernel⟩ rfl w_455 w_456 w_457 (by decide) rfl rfl rfl (Nat.le_of_ble_eq_true rfl) fun x1 => ?_
  refine zG_icmp (op := .ge) (off := 60) (tgt := 67) (by decide +kernel) rfl Iff.rfl (fun c11 => ?_) (fun c11 => ?_)
  · exact zG_end (L' := [none, none, none]) rfl (trivial)
  · refine zG_run t_Mod [(.aload_n 0, 0, 0), (.getfield 90, 11, 28), (.iload_n 2, 0, 0), (.iload_n 2, 0, 0), (.aload_n 0, 0, 0), (.getfield 40, 11, 3), (.iconst 0, 0, 0)] (21, [some (zr (some (11, 333))), some (zi v1), some (zi v2)], [zi 0, zr (some (62, 336)), zi v2, zi v2, zr (some (77, 351))], h) (by decide +kernel) rfl ?_
    refine zG_aldc (v := zi (h.1 336 0)) rfl (by decide +kernel) (by decide +kernel) rfl ?_
    refine zG_icmp (op := .ge) (off := 12) (tgt := 34) (by decide +kernel) rfl Iff.rfl (fun c10 => ?_) (fun c10 => ?_)
    · refine zG_run t_Mod [(.aload_n 0, 0, 0), (.iload_n 2, 0, 0)] (36, [some (zr (some (11, 333))), some (zi v1), some (zi v2)], [zi v2, zr (some (11, 333)), zi v2, zr (some (77, 351))], h) (by decide +kernel) rfl ?_
      refine zG_callV (idx := 314) (R := (fun a => (some (zi a), h))) (as := [zi v2]) (rest := [zi v2, zr (some (77, 351))]) (n := 1) (fun a ha => c_Mod_joined hl ha) (by decide +kernel) ⟨ok_Mod_joined, by decide, by decide +kernel⟩ rfl w_458 w_459 w_460 (by decide) rfl rfl rfl (Nat.le_of_ble_eq_true rfl) fun x2 => ?_
      exact zG_forget (L' := [some (zr (some (11, 333))), some (zi v1), some (zi v2)]) (And.intro rfl (And.intro rfl (And.intro rfl trivial))) (k_Mod_tellLines_j39 hl)
    · refine zG_run t_Mod [(.aload_n 0, 0, 0), (.getfield 87, 11, 27), (.iload_n 2, 0, 0)] (30, [some (zr (some (11, 333))), some (zi v1), some (zi v2)], [zi v2, zr (some (76, 350)), zi v2, zr (some (77, 351))], h) (by decide +kernel) rfl ?_
      refine zG_ald (v := zi (h.1 350 v2.toNatClampNeg)) (n := 6) rfl (by decide +kernel) rfl rfl fun hb9 => ?_
      refine zG_run t_Mod [(.goto 8, 0, 0)] (39, [some (zr (some (11, 333))), some (zi v1), some (zi v2)], [zi (h.1 350 v2.toNatClampNeg), zi v2, zr (some (77, 351))], h) (by decide +kernel) rfl ?_
      exact zG_forget (L' := [some (zr (some (11, 333))), some (zi v1), some (zi v2)]) (And.intro rfl (And.intro rfl (And.intro rfl trivial))) (k_Mod_tellLines_j39 hl)
set_option maxRecDepth 20000 in
theorem k_Mod_tellLines {l : Launch} {X : zX} (hl : l.stackTraces = false) {h : zH} {v1 : Int32} : zGl l m_Mod_tellLines X 0 0 (f_Mod_tellLines h v1) (0, [some (zr (some (11, 333))), some (zi v1), none], [], h) (fun x => .inr ((fun a => (.inl none, a) : zH → zF) x)) := by
  unfold f_Mod_tellLines
  refine zG_run t_Mod [(.iconst 0, 0, 0), (.istore_n 2, 0, 0)] (2, [some (zr (some (11, 333))), some (zi v1), some (zi 0)], [], h) (by decide +kernel) rfl ?_
  refine zG_forget (L' := [some (zr (some (11, 333))), some (zi v1), some (zi 0)]) (And.intro rfl (And.intro rfl (And.intro rfl trivial))) ?_
  refine zG_bind (fun y : zH => (67, [none, none, none], [], y)) (zG_iter (fun s : Int32 × zH => (2, [some (zr (some (11, 333))), some (zi v1), some (zi s.1)], [], s.2)) fun s => k_Mod_tellLines_b2 hl) (fun y13 => ?_)
  exact zG_ret (r := none) rfl (zrd_v rfl (by decide +kernel))
theorem c_Mod_tellLines {l : Launch} {X : zX} (hl : l.stackTraces = false) {h : zH} {v1 : Int32} {x : zH} (hx : f_Mod_tellLines h v1 = some x) : zCt l (true, 2) 2 m_Mod_tellLines X 0 0 [zr (some (11, 333)), zi v1] h ((fun a => (.inl none, a) : zH → zF) x) :=
  zG_ct (R := fun a => (.inl none, a)) (x := x) ok_Mod_tellLines hl (Nat.le_of_ble_eq_true rfl) hx (k_Mod_tellLines hl)
