/-! methods, by wip/whole/gen.py -/
def m_Mod_is : zM := (({ cls := "ScanPackerModel", name := "is", desc := "(Ljava/lang/String;)Z" } : Jvm.MethodName), prog_13_method_13_code, 4, (Option.some Jvm.ClassFile.FieldType.boolean), [], 6)
theorem ok_Mod_is : zMok m_Mod_is := ⟨by decide +kernel, zW_of 1672 (by decide +kernel) (by decide +kernel), zW_of 134 (by decide +kernel) (by decide +kernel), by decide, by decide +kernel, by decide +kernel⟩
set_option maxRecDepth 20000 in
theorem k_Mod_is_j75 {l : Launch} {X : zX} (hl : l.stackTraces = false) {o1 : Nat} {h : zH} {v3 : Int32} {t0 : Int32} : zGl l m_Mod_is X 0 0 (f_Mod_is_j75 o1 h v3 t0) (75, [some (zr (some (11, 333))), some (zr (some (202, o1))), none, some (zi v3)], [zi t0], h) (Sum.elim (fun s : Int32 × Int32 => .inl (39, [some (zr (some (11, 333))), some (zr (some (202, o1))), some (zi s.1), some (zi s.2)], [], h)) (fun y : Int32 => .inl (82, [none, none, some (zi y), none], [], h))) := by
  unfold f_Mod_is_j75
  refine zG_run t_Mod [(.istore_n 2, 0, 0), (.iinc 3 1, 0, 0), (.goto (-40), 0, 0)] (39, [some (zr (some (11, 333))), some (zr (some (202, o1))), some (zi t0), some (zi (v3 + 1))], [], h) (by decide +kernel) rfl ?_
  exact zG_end (L' := [some (zr (some (11, 333))), some (zr (some (202, o1))), some (zi t0), some (zi (v3 + 1))]) rfl (And.intro rfl (And.intro rfl (And.intro rfl (And.intro rfl trivial))))
set_option maxRecDepth 20000 in
theorem k_Mod_is_b39 {l : Launch} {X : zX} (hl : l.stackTraces = false) {o1 : Nat} {h : zH} {v2 : Int32} {v3 : Int32} : zGl l m_Mod_is X 0 0 (f_Mod_is_b39 o1 h v2 v3) (39, [some (zr (some (11, 333))), some (zr (some (202, o1))), some (zi v2), some (zi v3)], [], h) (Sum.elim (fun s : Int32 × Int32 => .inl (39, [some (zr (some (11, 333))), some (zr (some (202, o1))), some (zi s.1), some (zi s.2)], [], h)) (fun y : Int32 => .inl (82, [none, none, some (zi y), none], [], h))) := by
  unfold f_Mod_is_b39
  refine zG_run t_Mod [(.iload_n 2, 0, 0)] (40, [some (zr (some (11, 333))), some (zr (some (202, o1))), some (zi v2), some (zi v3)], [zi v2], h) (by decide +kernel) rfl ?_
  refine zG_if (op := .eq) (off := 42) (tgt := 82) (by decide +kernel) rfl Iff.rfl (fun c6 => ?_) (fun c6 => ?_)
  · exact zG_end (L' := [none, none, some (zi v2), none]) rfl (And.intro rfl trivial)
  · refine zG_run t_Mod [(.iload_n 3, 0, 0), (.aload_n 1, 0, 0)] (45, [some (zr (some (11, 333))), some (zr (some (202, o1))), some (zi v2), some (zi v3)], [zr (some (202, o1)), zi v3], h) (by decide +kernel) rfl ?_
    refine zG_Str_length hl w_391 (by decide +kernel) (Nat.le_of_ble_eq_true rfl) (by decide) fun x1 => ?_
    refine zG_icmp (op := .ge) (off := 34) (tgt := 82) (by decide +kernel) rfl Iff.rfl (fun c5 => ?_) (fun c5 => ?_)
    · exact zG_end (L' := [none, none, some (zi v2), none]) rfl (And.intro rfl trivial)
    · refine zG_run t_Mod [(.aload_n 1, 0, 0), (.iload_n 3, 0, 0)] (53, [some (zr (some (11, 333))), some (zr (some (202, o1))), some (zi v2), some (zi v3)], [zi v3, zr (some (202, o1))], h) (by decide +kernel) rfl ?_
      refine zG_Str_charAt hl w_392 (by decide +kernel) (Nat.le_of_ble_eq_true rfl) (by decide) fun x2 => ?_
      refine zG_run t_Mod [(.aload_n 0, 0, 0), (.getfield 80, 11, 16), (.aload_n 0, 0, 0), (.getfield 197, 11, 22), (.iload_n 3, 0, 0), (.iadd, 0, 0)] (66, [some (zr (some (11, 333))), some (zr (some (202, o1))), some (zi v2), some (zi v3)], [zi ((h.1 333 22) + v3), zr (some (75, 349)), zi x2], h) (by decide +kernel) rfl ?_
      refine zG_ald (v := zi (h.1 349 ((h.1 333 22) + v3).toNatClampNeg)) (n := 900) rfl (by decide +kernel) rfl rfl fun hb3 => ?_
      refine zG_icmp (op := .ne) (off := 7) (tgt := 74) (by decide +kernel) rfl Iff.rfl (fun c4 => ?_) (fun c4 => ?_)
      · refine zG_run t_Mod [(.iconst 0, 0, 0)] (75, [some (zr (some (11, 333))), some (zr (some (202, o1))), some (zi v2), some (zi v3)], [zi 0], h) (by decide +kernel) rfl ?_
        exact zG_forget (L' := [some (zr (some (11, 333))), some (zr (some (202, o1))), none, some (zi v3)]) (And.intro rfl (And.intro rfl (And.intro rfl trivial))) (k_Mod_is_j75 hl)
      · refine zG_run t_Mod [(.iconst 1, 0, 0), (.goto 4, 0, 0)] (75, [some (zr (some (11, 333))), some (zr (some (202, o1))), some (zi v2), some (zi v3)], [zi 1], h) (by decide +kernel) rfl ?_
        exact zG_forget (L' := [some (zr (some (11, 333))), some (zr (some (202, o1))), none, some (zi v3)]) (And.intro rfl (And.intro rfl (And.intro rfl trivial))) (k_Mod_is_j75 hl)
set_option maxRecDepth 20000 in
theorem k_Mod_is_j36 {l : Launch} {X : zX} (hl : l.stackTraces = false) {o1 : Nat} {h : zH} {t0 : Int32} : zGl l m_Mod_is X 0 0 (f_Mod_is_j36 o1 h t0) (36, [some (zr (some (11, 333))), some (zr (some (202, o1))), none, none], [zi t0], h) (fun x => .inr ((fun a => (.inl (some (zi a)), h) : Int32 → zF) x)) := by
  unfold f_Mod_is_j36
  refine zG_run t_Mod [(.istore_n 2, 0, 0), (.iconst 0, 0, 0), (.istore_n 3, 0, 0)] (39, [some (zr (some (11, 333))), some (zr (some (202, o1))), some (zi t0), some (zi 0)], [], h) (by decide +kernel) rfl ?_
  refine zG_forget (L' := [some (zr (some (11, 333))), some (zr (some (202, o1))), some (zi t0), some (zi 0)]) (And.intro rfl (And.intro rfl (And.intro rfl (And.intro rfl trivial)))) ?_
  refine zG_bind (fun y : Int32 => (82, [none, none, some (zi y), none], [], h)) (zG_iter (fun s : Int32 × Int32 => (39, [some (zr (some (11, 333))), some (zr (some (202, o1))), some (zi s.1), some (zi s.2)], [], h)) fun s => k_Mod_is_b39 hl) (fun y8 => ?_)
  refine zG_run t_Mod [(.iload_n 2, 0, 0)] (83, [none, none, some (zi y8), none], [zi y8], h) (by decide +kernel) rfl ?_
  refine zG_guard fun hb9 => ?_
  exact zG_ret (r := some (zi y8)) rfl (zrd_z rfl (by decide +kernel) hb9)
set_option maxRecDepth 20000 in
theorem k_Mod_is {l : Launch} {X : zX} (hl : l.stackTraces = false) {o1 : Nat} {h : zH} : zGl l m_Mod_is X 0 0 (f_Mod_is o1 h) (0, [some (zr (some (11, 333))), some (zr (some (202, o1))), none, none], [], h) (fun x => .inr ((fun a => (.inl (some (zi a)), h) : Int32 → zF) x)) := by
  unfold f_Mod_is
  refine zG_run t_Mod [(.aload_n 0, 0, 0), (.getfield 216, 11, 24)] (4, [some (zr (some (11, 333))), some (zr (some (202, o1))), none, none], [zi (h.1 333 24)], h) (by decide +kernel) rfl ?_
  refine zG_if (op := .ne) (off := 31) (tgt := 35) (by decide +kernel) rfl Iff.rfl (fun c13 => ?_) (fun c13 => ?_)
  · refine zG_run t_Mod [(.iconst 0, 0, 0)] (36, [some (zr (some (11, 333))), some (zr (some (202, o1))), none, none], [zi 0], h) (by decide +kernel) rfl ?_
    exact zG_forget (L' := [some (zr (some (11, 333))), some (zr (some (202, o1))), none, none]) (And.intro rfl (And.intro rfl trivial)) (k_Mod_is_j36 hl)
  · refine zG_run t_Mod [(.aload_n 0, 0, 0), (.getfield 200, 11, 20), (.iconst 1, 0, 0)] (12, [some (zr (some (11, 333))), some (zr (some (202, o1))), none, none], [zi 1, zi (h.1 333 20)], h) (by decide +kernel) rfl ?_
    refine zG_icmp (op := .ne) (off := 23) (tgt := 35) (by decide +kernel) rfl Iff.rfl (fun c12 => ?_) (fun c12 => ?_)
    · refine zG_run t_Mod [(.iconst 0, 0, 0)] (36, [some (zr (some (11, 333))), some (zr (some (202, o1))), none, none], [zi 0], h) (by decide +kernel) rfl ?_
      exact zG_forget (L' := [some (zr (some (11, 333))), some (zr (some (202, o1))), none, none]) (And.intro rfl (And.intro rfl trivial)) (k_Mod_is_j36 hl)
    · refine zG_run t_Mod [(.aload_n 1, 0, 0)] (16, [some (zr (some (11, 333))), some (zr (some (202, o1))), none, none], [zr (some (202, o1))], h) (by decide +kernel) rfl ?_
      refine zG_Str_length hl w_391 (by decide +kernel) (Nat.le_of_ble_eq_true rfl) (by decide) fun x10 => ?_
      refine zG_run t_Mod [(.aload_n 0, 0, 0), (.getfield 213, 11, 23), (.aload_n 0, 0, 0), (.getfield 197, 11, 22), (.isub, 0, 0)] (28, [some (zr (some (11, 333))), some (zr (some (202, o1))), none, none], [zi ((h.1 333 23) - (h.1 333 22)), zi x10], h) (by decide +kernel) rfl ?_
      refine zG_icmp (op := .ne) (off := 7) (tgt := 35) (by decide +kernel) rfl Iff.rfl (fun c11 => ?_) (fun c11 => ?_)
      · refine zG_run t_Mod [(.iconst 0, 0, 0)] (36, [some (zr (some (11, 333))), some (zr (some (202, o1))), none, none], [zi 0], h) (by decide +kernel) rfl ?_
        exact zG_forget (L' := [some (zr (some (11, 333))), some (zr (some (202, o1))), none, none]) (And.intro rfl (And.intro rfl trivial)) (k_Mod_is_j36 hl)
      · refine zG_run t_Mod [(.iconst 1, 0, 0), (.goto 4, 0, 0)] (36, [some (zr (some (11, 333))), some (zr (some (202, o1))), none, none], [zi 1], h) (by decide +kernel) rfl ?_
        exact zG_forget (L' := [some (zr (some (11, 333))), some (zr (some (202, o1))), none, none]) (And.intro rfl (And.intro rfl trivial)) (k_Mod_is_j36 hl)
theorem c_Mod_is {l : Launch} {X : zX} (hl : l.stackTraces = false) {o1 : Nat} {h : zH} {x : Int32} (hx : f_Mod_is o1 h = some x) : zCt l (true, 2) 2 m_Mod_is X 0 0 [zr (some (11, 333)), zr (some (202, o1))] h ((fun a => (.inl (some (zi a)), h) : Int32 → zF) x) :=
  zG_ct (R := fun a => (.inl (some (zi a)), h)) (x := x) ok_Mod_is hl (Nat.le_of_ble_eq_true rfl) hx (k_Mod_is hl)
def m_Mod_wrong : zM := (({ cls := "ScanPackerModel", name := "wrong", desc := "(I)V" } : Jvm.MethodName), prog_13_method_12_code, 2, (Option.none : Option Jvm.ClassFile.FieldType), [], 1)
theorem ok_Mod_wrong : zMok m_Mod_wrong := ⟨by decide +kernel, zW_of 1668 (by decide +kernel) (by decide +kernel), zW_of 134 (by decide +kernel) (by decide +kernel), by decide, by decide +kernel, by decide +kernel⟩
set_option maxRecDepth 20000 in
theorem k_Mod_wrong {l : Launch} {X : zX} (hl : l.stackTraces = false) {h : zH} {v1 : Int32} : zGl l m_Mod_wrong X 0 0 (f_Mod_wrong h v1) (0, [some (zr (some (11, 333))), some (zi v1)], [], h) (fun x => .inr ((fun a => (.inl none, a) : zH → zF) x)) := by
  unfold f_Mod_wrong
  refine zG_run t_Mod [(.aload_n 0, 0, 0), (.getfield 216, 11, 24)] (4, [some (zr (some (11, 333))), some (zi v1)], [zi (h.1 333 24)], h) (by decide +kernel) rfl ?_
  refine zG_if (op := .eq) (off := 4) (tgt := 8) (by decide +kernel) rfl Iff.rfl (fun c3 => ?_) (fun c3 => ?_)
  · refine zG_bind (fun y => (13, [some (zr (some (11, 333))), some (zi v1)], [], y)) (zG_run t_Mod [(.aload_n 0, 0, 0), (.iload_n 1, 0, 0), (.putfield 216, 11, 24)] (13, [some (zr (some (11, 333))), some (zi v1)], [], zsI h 333 24 v1) (by decide +kernel) rfl (zG_end (L' := [some (zr (some (11, 333))), some (zi v1)]) rfl (And.intro rfl (And.intro rfl trivial)))) fun h1 => ?_
    refine zG_bind (fun y => (21, [some (zr (some (11, 333))), some (zi v1)], [], y)) (zG_run t_Mod [(.aload_n 0, 0, 0), (.aload_n 0, 0, 0), (.getfield 197, 11, 22), (.putfield 219, 11, 25)] (21, [some (zr (some (11, 333))), some (zi v1)], [], zsI h1 333 25 (h1.1 333 22)) (by decide +kernel) rfl (zG_end (L' := [some (zr (some (11, 333))), some (zi v1)]) rfl (And.intro rfl (And.intro rfl trivial)))) fun h2 => ?_
    exact zG_ret (r := none) rfl (zrd_v rfl (by decide +kernel))
  · exact zG_ret (r := none) rfl (zrd_v rfl (by decide +kernel))
theorem c_Mod_wrong {l : Launch} {X : zX} (hl : l.stackTraces = false) {h : zH} {v1 : Int32} {x : zH} (hx : f_Mod_wrong h v1 = some x) : zCt l (true, 2) 2 m_Mod_wrong X 0 0 [zr (some (11, 333)), zi v1] h ((fun a => (.inl none, a) : zH → zF) x) :=
  zG_ct (R := fun a => (.inl none, a)) (x := x) ok_Mod_wrong hl (Nat.le_of_ble_eq_true rfl) hx (k_Mod_wrong hl)
def m_Mod_which_60 : zM := (({ cls := "ScanPackerModel", name := "which", desc := "([Ljava/lang/String;)I" } : Jvm.MethodName), prog_13_method_14_code, 3, (Option.some Jvm.ClassFile.FieldType.int), [], 7)
theorem ok_Mod_which_60 : zMok m_Mod_which_60 := ⟨by decide +kernel, zW_of 1732 (by decide +kernel) (by decide +kernel), zW_of 134 (by decide +kernel) (by decide +kernel), by decide, by decide +kernel, by decide +kernel⟩
set_option maxRecDepth 20000 in
theorem k_Mod_which_60_b2 {l : Launch} {X : zX} (hl : l.stackTraces = false) {h : zH} {v2 : Int32} : zGl l m_Mod_which_60 X 0 0 (f_Mod_which_60_b2 h v2) (2, [some (zr (some (11, 333))), some (zr (some (60, 334))), some (zi v2)], [], h) (Sum.elim (fun s : Int32 => .inl (2, [some (zr (some (11, 333))), some (zr (some (60, 334))), some (zi s)], [], h)) (Sum.elim (fun y : Int32 => .inl (18, [none, none, some (zi y)], [], h)) (fun y : Unit => .inl (26, [none, none, none], [], h)))) := by
  unfold f_Mod_which_60_b2
  refine zG_run t_Mod [(.iload_n 2, 0, 0), (.aload_n 1, 0, 0)] (4, [some (zr (some (11, 333))), some (zr (some (60, 334))), some (zi v2)], [zr (some (60, 334)), zi v2], h) (by decide +kernel) rfl ?_
  refine zG_alen (v := 6) rfl (by decide +kernel) rfl ?_
  refine zG_icmp (op := .ge) (off := 21) (tgt := 26) (by decide +kernel) rfl Iff.rfl (fun c4 => ?_) (fun c4 => ?_)
  · exact zG_end (L' := [none, none, none]) rfl (trivial)
  · refine zG_run t_Mod [(.aload_n 0, 0, 0), (.aload_n 1, 0, 0), (.iload_n 2, 0, 0)] (11, [some (zr (some (11, 333))), some (zr (some (60, 334))), some (zi v2)], [zi v2, zr (some (60, 334)), zr (some (11, 333))], h) (by decide +kernel) rfl ?_
    refine zG_ald (v := zr (some (202, (1000010 + v2.toNatClampNeg)))) (n := 6) rfl (by decide +kernel) rfl rfl fun hb1 => ?_
    refine zG_callV (idx := 230) (R := (fun a => (some (zi a), h))) (as := [zr (some (202, (1000010 + v2.toNatClampNeg)))]) (rest := []) (n := 1) (fun a ha => c_Mod_is hl ha) (by decide +kernel) ⟨ok_Mod_is, by decide, by decide +kernel⟩ rfl w_393 w_394 w_395 (by decide) rfl rfl rfl (Nat.le_of_ble_eq_true rfl) fun x2 => ?_
    refine zG_if (op := .eq) (off := 5) (tgt := 20) (by decide +kernel) rfl Iff.rfl (fun c3 => ?_) (fun c3 => ?_)
    · refine zG_run t_Mod [(.iinc 2 1, 0, 0), (.goto (-21), 0, 0)] (2, [some (zr (some (11, 333))), some (zr (some (60, 334))), some (zi (v2 + 1))], [], h) (by decide +kernel) rfl ?_
      exact zG_end (L' := [some (zr (some (11, 333))), some (zr (some (60, 334))), some (zi (v2 + 1))]) rfl (And.intro rfl (And.intro rfl (And.intro rfl trivial)))
    · exact zG_end (L' := [none, none, some (zi v2)]) rfl (And.intro rfl trivial)
set_option maxRecDepth 20000 in
theorem k_Mod_which_60 {l : Launch} {X : zX} (hl : l.stackTraces = false) {h : zH} : zGl l m_Mod_which_60 X 0 0 (f_Mod_which_60 h) (0, [some (zr (some (11, 333))), some (zr (some (60, 334))), none], [], h) (fun x => .inr ((fun a => (.inl (some (zi a)), h) : Int32 → zF) x)) := by
  unfold f_Mod_which_60
  refine zG_run t_Mod [(.iconst 0, 0, 0), (.istore_n 2, 0, 0)] (2, [some (zr (some (11, 333))), some (zr (some (60, 334))), some (zi 0)], [], h) (by decide +kernel) rfl ?_
  refine zG_forget (L' := [some (zr (some (11, 333))), some (zr (some (60, 334))), some (zi 0)]) (And.intro rfl (And.intro rfl (And.intro rfl trivial))) ?_
  refine zG_bind2 (fun y : Int32 => (18, [none, none, some (zi y)], [], h)) (fun y : Unit => (26, [none, none, none], [], h)) (zG_iter (fun s : Int32 => (2, [some (zr (some (11, 333))), some (zr (some (60, 334))), some (zi s)], [], h)) fun s => k_Mod_which_60_b2 hl) (fun y6 => ?_) (fun y7 => ?_)
  · refine zG_run t_Mod [(.iload_n 2, 0, 0)] (19, [none, none, some (zi y6)], [zi y6], h) (by decide +kernel) rfl ?_
    exact zG_ret (r := some (zi y6)) rfl (zrd_i rfl (by decide +kernel))
  · refine zG_run t_Mod [(.iconst (-1), 0, 0)] (27, [none, none, none], [zi (-1)], h) (by decide +kernel) rfl ?_
    exact zG_ret (r := some (zi (-1))) rfl (zrd_i rfl (by decide +kernel))
theorem c_Mod_which_60 {l : Launch} {X : zX} (hl : l.stackTraces = false) {h : zH} {x : Int32} (hx : f_Mod_which_60 h = some x) : zCt l (true, 2) 2 m_Mod_which_60 X 0 0 [zr (some (11, 333)), zr (some (60, 334))] h ((fun a => (.inl (some (zi a)), h) : Int32 → zF) x) :=
  zG_ct (R := fun a => (.inl (some (zi a)), h)) (x := x) ok_Mod_which_60 hl (Nat.le_of_ble_eq_true rfl) hx (k_Mod_which_60 hl)
def m_Mod_which_61 : zM := (({ cls := "ScanPackerModel", name := "which", desc := "([Ljava/lang/String;)I" } : Jvm.MethodName), prog_13_method_14_code, 3, (Option.some Jvm.ClassFile.FieldType.int), [], 7)
theorem ok_Mod_which_61 : zMok m_Mod_which_61 := ⟨by decide +kernel, zW_of 1732 (by decide +kernel) (by decide +kernel), zW_of 134 (by decide +kernel) (by decide +kernel), by decide, by decide +kernel, by decide +kernel⟩
set_option maxRecDepth 20000 in
theorem k_Mod_which_61_b2 {l : Launch} {X : zX} (hl : l.stackTraces = false) {h : zH} {v2 : Int32} : zGl l m_Mod_which_61 X 0 0 (f_Mod_which_61_b2 h v2) (2, [some (zr (some (11, 333))), some (zr (some (61, 335))), some (zi v2)], [], h) (Sum.elim (fun s : Int32 => .inl (2, [some (zr (some (11, 333))), some (zr (some (61, 335))), some (zi s)], [], h)) (Sum.elim (fun y : Int32 => .inl (18, [none, none, some (zi y)], [], h)) (fun y : Unit => .inl (26, [none, none, none], [], h)))) := by
  unfold f_Mod_which_61_b2
  refine zG_run t_Mod [(.iload_n 2, 0, 0), (.aload_n 1, 0, 0)] (4, [some (zr (some (11, 333))), some (zr (some (61, 335))), some (zi v2)], [zr (some (61, 335)), zi v2], h) (by decide +kernel) rfl ?_
  refine zG_alen (v := 5) rfl (by decide +kernel) rfl ?_
  refine zG_icmp (op := .ge) (off := 21) (tgt := 26) (by decide +kernel) rfl Iff.rfl (fun c4 => ?_) (fun c4 => ?_)
  · exact zG_end (L' := [none, none, none]) rfl (trivial)
  · refine zG_run t_Mod [(.aload_n 0, 0, 0), (.aload_n 1, 0, 0), (.iload_n 2, 0, 0)] (11, [some (zr (some (11, 333))), some (zr (some (61, 335))), some (zi v2)], [zi v2, zr (some (61, 335)), zr (some (11, 333))], h) (by decide +kernel) rfl ?_
    refine zG_ald (v := zr (some (202, (1000016 + v2.toNatClampNeg)))) (n := 5) rfl (by decide +kernel) rfl rfl fun hb1 => ?_
    refine zG_callV (idx := 230) (R := (fun a => (some (zi a), h))) (as := [zr (some (202, (1000016 + v2.toNatClampNeg)))]) (rest := []) (n := 1) (fun a ha => c_Mod_is hl ha) (by decide +kernel) ⟨ok_Mod_is, by decide, by decide +kernel⟩ rfl w_393 w_394 w_395 (by decide) rfl rfl rfl (Nat.le_of_ble_eq_true rfl) fun x2 => ?_
    refine zG_if (op := .eq) (off := 5) (tgt := 20) (by decide +kernel) rfl Iff.rfl (fun c3 => ?_) (fun c3 => ?_)
    · refine zG_run t_Mod [(.iinc 2 1, 0, 0), (.goto (-21), 0, 0)] (2, [some (zr (some (11, 333))), some (zr (some (61, 335))), some (zi (v2 + 1))], [], h) (by decide +kernel) rfl ?_
      exact zG_end (L' := [some (zr (some (11, 333))), some (zr (some (61, 335))), some (zi (v2 + 1))]) rfl (And.intro rfl (And.intro rfl (And.intro rfl trivial)))
    · exact zG_end (L' := [none, none, some (zi v2)]) rfl (And.intro rfl trivial)
set_option maxRecDepth 20000 in
theorem k_Mod_which_61 {l : Launch} {X : zX} (hl : l.stackTraces = false) {h : zH} : zGl l m_Mod_which_61 X 0 0 (f_Mod_which_61 h) (0, [some (zr (some (11, 333))), some (zr (some (61, 335))), none], [], h) (fun x => .inr ((fun a => (.inl (some (zi a)), h) : Int32 → zF) x)) := by
  unfold f_Mod_which_61
  refine zG_run t_Mod [(.iconst 0, 0, 0), (.istore_n 2, 0, 0)] (2, [some (zr (some (11, 333))), some (zr (some (61, 335))), some (zi 0)], [], h) (by decide +kernel) rfl ?_
  refine zG_forget (L' := [some (zr (some (11, 333))), some (zr (some (61, 335))), some (zi 0)]) (And.intro rfl (And.intro rfl (And.intro rfl trivial))) ?_
  refine zG_bind2 (fun y : Int32 => (18, [none, none, some (zi y)], [], h)) (fun y : Unit => (26, [none, none, none], [], h)) (zG_iter (fun s : Int32 => (2, [some (zr (some (11, 333))), some (zr (some (61, 335))), some (zi s)], [], h)) fun s => k_Mod_which_61_b2 hl) (fun y6 => ?_) (fun y7 => ?_)
  · refine zG_run t_Mod [(.iload_n 2, 0, 0)] (19, [none, none, some (zi y6)], [zi y6], h) (by decide +kernel) rfl ?_
    exact zG_ret (r := some (zi y6)) rfl (zrd_i rfl (by decide +kernel))
  · refine zG_run t_Mod [(.iconst (-1), 0, 0)] (27, [none, none, none], [zi (-1)], h) (by decide +kernel) rfl ?_
    exact zG_ret (r := some (zi (-1))) rfl (zrd_i rfl (by decide +kernel))
theorem c_Mod_which_61 {l : Launch} {X : zX} (hl : l.stackTraces = false) {h : zH} {x : Int32} (hx : f_Mod_which_61 h = some x) : zCt l (true, 2) 2 m_Mod_which_61 X 0 0 [zr (some (11, 333)), zr (some (61, 335))] h ((fun a => (.inl (some (zi a)), h) : Int32 → zF) x) :=
  zG_ct (R := fun a => (.inl (some (zi a)), h)) (x := x) ok_Mod_which_61 hl (Nat.le_of_ble_eq_true rfl) hx (k_Mod_which_61 hl)
def m_Mod_wordHere : zM := (({ cls := "ScanPackerModel", name := "wordHere", desc := "()Z" } : Jvm.MethodName), prog_13_method_18_code, 1, (Option.some Jvm.ClassFile.FieldType.boolean), [], 8)
theorem ok_Mod_wordHere : zMok m_Mod_wordHere := ⟨by decide +kernel, zW_of 1728 (by decide +kernel) (by decide +kernel), zW_of 134 (by decide +kernel) (by decide +kernel), by decide, by decide +kernel, by decide +kernel⟩
set_option maxRecDepth 20000 in
theorem k_Mod_wordHere_j68 {l : Launch} {X : zX} (hl : l.stackTraces = false) {h : zH} : zGl l m_Mod_wordHere X 0 0 (f_Mod_wordHere_j68 h) (68, [some (zr (some (11, 333)))], [], h) (fun x => .inr ((fun a => (.inl (some (zi a.1)), a.2) : Int32 × zH → zF) x)) := by
  unfold f_Mod_wordHere_j68
  refine zG_run t_Mod [(.aload_n 0, 0, 0), (.getfield 216, 11, 24)] (72, [some (zr (some (11, 333)))], [zi (h.1 333 24)], h) (by decide +kernel) rfl ?_
  refine zG_if (op := .ne) (off := 7) (tgt := 79) (by decide +kernel) rfl Iff.rfl (fun c2 => ?_) (fun c2 => ?_)
  · refine zG_run t_Mod [(.iconst 0, 0, 0)] (80, [some (zr (some (11, 333)))], [zi 0], h) (by decide +kernel) rfl ?_
    exact zG_ret (r := some (zi 0)) rfl (zrd_z rfl (by decide +kernel) rfl)
  · refine zG_run t_Mod [(.iconst 1, 0, 0), (.goto 4, 0, 0)] (80, [some (zr (some (11, 333)))], [zi 1], h) (by decide +kernel) rfl ?_
    exact zG_ret (r := some (zi 1)) rfl (zrd_z rfl (by decide +kernel) rfl)
set_option maxRecDepth 20000 in
theorem k_Mod_wordHere_j41 {l : Launch} {X : zX} (hl : l.stackTraces = false) {h : zH} : zGl l m_Mod_wordHere X 0 0 (f_Mod_wordHere_j41 h) (41, [some (zr (some (11, 333)))], [], h) (fun x => .inr ((fun a => (.inl (some (zi a.1)), a.2) : Int32 × zH → zF) x)) := by
  unfold f_Mod_wordHere_j41
  refine zG_run t_Mod [(.aload_n 0, 0, 0), (.iconst 1, 0, 0)] (43, [some (zr (some (11, 333)))], [zi 1, zr (some (11, 333))], h) (by decide +kernel) rfl ?_
  refine zG_callV (idx := 237) (R := (fun a => (none, a))) (as := [zi 1]) (rest := []) (n := 1) (fun a ha => c_Mod_wrong hl ha) (by decide +kernel) ⟨ok_Mod_wrong, by decide, by decide +kernel⟩ rfl w_396 w_397 w_398 (by decide) rfl rfl rfl (Nat.le_of_ble_eq_true rfl) fun x1 => ?_
  refine zG_run t_Mod [(.goto 22, 0, 0)] (68, [some (zr (some (11, 333)))], [], x1) (by decide +kernel) rfl ?_
  exact zG_forget (L' := [some (zr (some (11, 333)))]) (And.intro rfl trivial) (k_Mod_wordHere_j68 hl)
set_option maxRecDepth 20000 in
theorem k_Mod_wordHere {l : Launch} {X : zX} (hl : l.stackTraces = false) {h : zH} : zGl l m_Mod_wordHere X 0 0 (f_Mod_wordHere h) (0, [some (zr (some (11, 333)))], [], h) (fun x => .inr ((fun a => (.inl (some (zi a.1)), a.2) : Int32 × zH → zF) x)) := by
  unfold f_Mod_wordHere
  refine zG_run t_Mod [(.aload_n 0, 0, 0), (.getfield 216, 11, 24)] (4, [some (zr (some (11, 333)))], [zi (h.1 333 24)], h) (by decide +kernel) rfl ?_
  refine zG_if (op := .eq) (off := 5) (tgt := 9) (by decide +kernel) rfl Iff.rfl (fun c10 => ?_) (fun c10 => ?_)
  · refine zG_run t_Mod [(.aload_n 0, 0, 0), (.getfield 200, 11, 20), (.iconst 1, 0, 0)] (14, [some (zr (some (11, 333)))], [zi 1, zi (h.1 333 20)], h) (by decide +kernel) rfl ?_
    refine zG_icmp (op := .ne) (off := 27) (tgt := 41) (by decide +kernel) rfl Iff.rfl (fun c9 => ?_) (fun c9 => ?_)
    · exact zG_forget (L' := [some (zr (some (11, 333)))]) (And.intro rfl trivial) (k_Mod_wordHere_j41 hl)
    · refine zG_run t_Mod [(.aload_n 0, 0, 0), (.aload_n 0, 0, 0), (.getfield 21, 11, 0)] (22, [some (zr (some (11, 333)))], [zr (some (60, 334)), zr (some (11, 333))], h) (by decide +kernel) rfl ?_
      refine zG_callV (idx := 244) (R := (fun a => (some (zi a), h))) (as := [zr (some (60, 334))]) (rest := []) (n := 1) (fun a ha => c_Mod_which_60 hl ha) (by decide +kernel) ⟨ok_Mod_which_60, by decide, by decide +kernel⟩ rfl w_399 w_400 w_401 (by decide) rfl rfl rfl (Nat.le_of_ble_eq_true rfl) fun x3 => ?_
      refine zG_run t_Mod [(.iconst (-1), 0, 0)] (26, [some (zr (some (11, 333)))], [zi (-1), zi x3], h) (by decide +kernel) rfl ?_
      refine zG_icmp (op := .ne) (off := 15) (tgt := 41) (by decide +kernel) rfl Iff.rfl (fun c8 => ?_) (fun c8 => ?_)
      · exact zG_forget (L' := [some (zr (some (11, 333)))]) (And.intro rfl trivial) (k_Mod_wordHere_j41 hl)
      · refine zG_run t_Mod [(.aload_n 0, 0, 0), (.aload_n 0, 0, 0), (.getfield 37, 11, 1)] (34, [some (zr (some (11, 333)))], [zr (some (61, 335)), zr (some (11, 333))], h) (by decide +kernel) rfl ?_
        refine zG_callV (idx := 244) (R := (fun a => (some (zi a), h))) (as := [zr (some (61, 335))]) (rest := []) (n := 1) (fun a ha => c_Mod_which_61 hl ha) (by decide +kernel) ⟨ok_Mod_which_61, by decide, by decide +kernel⟩ rfl w_399 w_400 w_401 (by decide) rfl rfl rfl (Nat.le_of_ble_eq_true rfl) fun x4 => ?_
        refine zG_run t_Mod [(.iconst (-1), 0, 0)] (38, [some (zr (some (11, 333)))], [zi (-1), zi x4], h) (by decide +kernel) rfl ?_
        refine zG_icmp (op := .eq) (off := 11) (tgt := 49) (by decide +kernel) rfl Iff.rfl (fun c7 => ?_) (fun c7 => ?_)
        · refine zG_run t_Mod [(.aload_n 0, 0, 0), (.getfield 213, 11, 23), (.aload_n 0, 0, 0), (.getfield 197, 11, 22), (.isub, 0, 0), (.bipush 6, 0, 0)] (60, [some (zr (some (11, 333)))], [zi 6, zi ((h.1 333 23) - (h.1 333 22))], h) (by decide +kernel) rfl ?_
          refine zG_icmp (op := .le) (off := 8) (tgt := 68) (by decide +kernel) rfl Iff.rfl (fun c6 => ?_) (fun c6 => ?_)
          · exact zG_forget (L' := [some (zr (some (11, 333)))]) (And.intro rfl trivial) (k_Mod_wordHere_j68 hl)
          · refine zG_run t_Mod [(.aload_n 0, 0, 0), (.iconst 2, 0, 0)] (65, [some (zr (some (11, 333)))], [zi 2, zr (some (11, 333))], h) (by decide +kernel) rfl ?_
            refine zG_callV (idx := 237) (R := (fun a => (none, a))) (as := [zi 2]) (rest := []) (n := 1) (fun a ha => c_Mod_wrong hl ha) (by decide +kernel) ⟨ok_Mod_wrong, by decide, by decide +kernel⟩ rfl w_396 w_397 w_398 (by decide) rfl rfl rfl (Nat.le_of_ble_eq_true rfl) fun x5 => ?_
            exact zG_forget (L' := [some (zr (some (11, 333)))]) (And.intro rfl trivial) (k_Mod_wordHere_j68 hl)
        · exact zG_forget (L' := [some (zr (some (11, 333)))]) (And.intro rfl trivial) (k_Mod_wordHere_j41 hl)
  · refine zG_run t_Mod [(.iconst 0, 0, 0)] (8, [some (zr (some (11, 333)))], [zi 0], h) (by decide +kernel) rfl ?_
    exact zG_ret (r := some (zi 0)) rfl (zrd_z rfl (by decide +kernel) rfl)
theorem c_Mod_wordHere {l : Launch} {X : zX} (hl : l.stackTraces = false) {h : zH} {x : Int32 × zH} (hx : f_Mod_wordHere h = some x) : zCt l (true, 2) 2 m_Mod_wordHere X 0 0 [zr (some (11, 333))] h ((fun a => (.inl (some (zi a.1)), a.2) : Int32 × zH → zF) x) :=
  zG_ct (R := fun a => (.inl (some (zi a.1)), a.2)) (x := x) ok_Mod_wordHere hl (Nat.le_of_ble_eq_true rfl) hx (k_Mod_wordHere hl)
def m_Mod_newLines : zM := (({ cls := "ScanPackerModel", name := "newLines", desc := "()I" } : Jvm.MethodName), prog_13_method_17_code, 1, (Option.some Jvm.ClassFile.FieldType.int), [], 1)
theorem ok_Mod_newLines : zMok m_Mod_newLines := ⟨by decide +kernel, zW_of 1744 (by decide +kernel) (by decide +kernel), zW_of 134 (by decide +kernel) (by decide +kernel), by decide, by decide +kernel, by decide +kernel⟩
set_option maxRecDepth 20000 in
theorem k_Mod_newLines {l : Launch} {X : zX} (hl : l.stackTraces = false) {h : zH} : zGl l m_Mod_newLines X 0 0 (f_Mod_newLines h) (0, [some (zr (some (11, 333)))], [], h) (fun x => .inr ((fun a => (.inl (some (zi a)), h) : Int32 → zF) x)) := by
  unfold f_Mod_newLines
  refine zG_run t_Mod [(.aload_n 0, 0, 0), (.getfield 40, 11, 3), (.iconst 5, 0, 0)] (5, [some (zr (some (11, 333)))], [zi 5, zr (some (62, 336))], h) (by decide +kernel) rfl ?_
  refine zG_aldc (v := zi (h.1 336 5)) rfl (by decide +kernel) (by decide +kernel) rfl ?_
  refine zG_run t_Mod [(.aload_n 0, 0, 0), (.getfield 40, 11, 3), (.bipush 6, 0, 0)] (12, [some (zr (some (11, 333)))], [zi 6, zr (some (62, 336)), zi (h.1 336 5)], h) (by decide +kernel) rfl ?_
  refine zG_aldc (v := zi (h.1 336 6)) rfl (by decide +kernel) (by decide +kernel) rfl ?_
  refine zG_run t_Mod [(.iadd, 0, 0)] (14, [some (zr (some (11, 333)))], [zi ((h.1 336 5) + (h.1 336 6))], h) (by decide +kernel) rfl ?_
  exact zG_ret (r := some (zi ((h.1 336 5) + (h.1 336 6)))) rfl (zrd_i rfl (by decide +kernel))
theorem c_Mod_newLines {l : Launch} {X : zX} (hl : l.stackTraces = false) {h : zH} {x : Int32} (hx : f_Mod_newLines h = some x) : zCt l (true, 2) 2 m_Mod_newLines X 0 0 [zr (some (11, 333))] h ((fun a => (.inl (some (zi a)), h) : Int32 → zF) x) :=
  zG_ct (R := fun a => (.inl (some (zi a)), h)) (x := x) ok_Mod_newLines hl (Nat.le_of_ble_eq_true rfl) hx (k_Mod_newLines hl)
def m_Mod_named : zM := (({ cls := "ScanPackerModel", name := "named", desc := "()I" } : Jvm.MethodName), prog_13_method_19_code, 4, (Option.some Jvm.ClassFile.FieldType.int), [], 2)
theorem ok_Mod_named : zMok m_Mod_named := ⟨by decide +kernel, zW_of 1740 (by decide +kernel) (by decide +kernel), zW_of 134 (by decide +kernel) (by decide +kernel), by decide, by decide +kernel, by decide +kernel⟩
set_option maxRecDepth 20000 in
theorem k_Mod_named_j94 {l : Launch} {X : zX} (hl : l.stackTraces = false) {h : zH} {v1 : Int32} {v3 : Int32} {t0 : Int32} : zGl l m_Mod_named X 0 0 (f_Mod_named_j94 h v1 v3 t0) (94, [some (zr (some (11, 333))), some (zi v1), none, some (zi v3)], [zi t0], h) (Sum.elim (fun s : Int32 × Int32 => .inl (39, [some (zr (some (11, 333))), some (zi v1), some (zi s.1), some (zi s.2)], [], h)) (fun y : Int32 => .inl (101, [some (zr (some (11, 333))), some (zi v1), some (zi y), none], [], h))) := by
  unfold f_Mod_named_j94
  refine zG_run t_Mod [(.istore_n 2, 0, 0), (.iinc 3 1, 0, 0), (.goto (-59), 0, 0)] (39, [some (zr (some (11, 333))), some (zi v1), some (zi t0), some (zi (v3 + 1))], [], h) (by decide +kernel) rfl ?_
  exact zG_end (L' := [some (zr (some (11, 333))), some (zi v1), some (zi t0), some (zi (v3 + 1))]) rfl (And.intro rfl (And.intro rfl (And.intro rfl (And.intro rfl trivial))))
set_option maxRecDepth 20000 in
theorem k_Mod_named_b39 {l : Launch} {X : zX} (hl : l.stackTraces = false) {h : zH} {v1 : Int32} {v2 : Int32} {v3 : Int32} : zGl l m_Mod_named X 0 0 (f_Mod_named_b39 h v1 v2 v3) (39, [some (zr (some (11, 333))), some (zi v1), some (zi v2), some (zi v3)], [], h) (Sum.elim (fun s : Int32 × Int32 => .inl (39, [some (zr (some (11, 333))), some (zi v1), some (zi s.1), some (zi s.2)], [], h)) (fun y : Int32 => .inl (101, [some (zr (some (11, 333))), some (zi v1), some (zi y), none], [], h))) := by
  unfold f_Mod_named_b39
  refine zG_run t_Mod [(.iload_n 2, 0, 0)] (40, [some (zr (some (11, 333))), some (zi v1), some (zi v2), some (zi v3)], [zi v2], h) (by decide +kernel) rfl ?_
  refine zG_if (op := .eq) (off := 61) (tgt := 101) (by decide +kernel) rfl Iff.rfl (fun c7 => ?_) (fun c7 => ?_)
  · exact zG_end (L' := [some (zr (some (11, 333))), some (zi v1), some (zi v2), none]) rfl (And.intro rfl (And.intro rfl (And.intro rfl trivial)))
  · refine zG_run t_Mod [(.iload_n 3, 0, 0), (.aload_n 0, 0, 0), (.getfield 213, 11, 23), (.aload_n 0, 0, 0), (.getfield 197, 11, 22), (.isub, 0, 0)] (53, [some (zr (some (11, 333))), some (zi v1), some (zi v2), some (zi v3)], [zi ((h.1 333 23) - (h.1 333 22)), zi v3], h) (by decide +kernel) rfl ?_
    refine zG_icmp (op := .ge) (off := 48) (tgt := 101) (by decide +kernel) rfl Iff.rfl (fun c6 => ?_) (fun c6 => ?_)
    · exact zG_end (L' := [some (zr (some (11, 333))), some (zi v1), some (zi v2), none]) rfl (And.intro rfl (And.intro rfl (And.intro rfl trivial)))
    · refine zG_run t_Mod [(.aload_n 0, 0, 0), (.getfield 71, 11, 13), (.bipush 6, 0, 0), (.bipush 22, 0, 0), (.iload_n 1, 0, 0), (.iadd, 0, 0), (.imul, 0, 0), (.iload_n 3, 0, 0), (.iadd, 0, 0)] (69, [some (zr (some (11, 333))), some (zi v1), some (zi v2), some (zi v3)], [zi ((6 * (22 + v1)) + v3), zr (some (72, 346))], h) (by decide +kernel) rfl ?_
      refine zG_ald (v := zi (h.1 346 ((6 * (22 + v1)) + v3).toNatClampNeg)) (n := 264) rfl (by decide +kernel) rfl rfl fun hb3 => ?_
      refine zG_run t_Mod [(.aload_n 0, 0, 0), (.getfield 80, 11, 16), (.aload_n 0, 0, 0), (.getfield 197, 11, 22), (.iload_n 3, 0, 0), (.iadd, 0, 0)] (80, [some (zr (some (11, 333))), some (zi v1), some (zi v2), some (zi v3)], [zi ((h.1 333 22) + v3), zr (some (75, 349)), zi (h.1 346 ((6 * (22 + v1)) + v3).toNatClampNeg)], h) (by decide +kernel) rfl ?_
      refine zG_ald (v := zi (h.1 349 ((h.1 333 22) + v3).toNatClampNeg)) (n := 900) rfl (by decide +kernel) rfl rfl fun hb4 => ?_
      refine zG_run t_Mod [(.bipush 97, 0, 0), (.isub, 0, 0), (.iconst 1, 0, 0), (.iadd, 0, 0)] (86, [some (zr (some (11, 333))), some (zi v1), some (zi v2), some (zi v3)], [zi (((h.1 349 ((h.1 333 22) + v3).toNatClampNeg) - 97) + 1), zi (h.1 346 ((6 * (22 + v1)) + v3).toNatClampNeg)], h) (by decide +kernel) rfl ?_
      refine zG_icmp (op := .ne) (off := 7) (tgt := 93) (by decide +kernel) rfl Iff.rfl (fun c5 => ?_) (fun c5 => ?_)
      · refine zG_run t_Mod [(.iconst 0, 0, 0)] (94, [some (zr (some (11, 333))), some (zi v1), some (zi v2), some (zi v3)], [zi 0], h) (by decide +kernel) rfl ?_
        exact zG_forget (L' := [some (zr (some (11, 333))), some (zi v1), none, some (zi v3)]) (And.intro rfl (And.intro rfl (And.intro rfl trivial))) (k_Mod_named_j94 hl)
      · refine zG_run t_Mod [(.iconst 1, 0, 0), (.goto 4, 0, 0)] (94, [some (zr (some (11, 333))), some (zi v1), some (zi v2), some (zi v3)], [zi 1], h) (by decide +kernel) rfl ?_
        exact zG_forget (L' := [some (zr (some (11, 333))), some (zi v1), none, some (zi v3)]) (And.intro rfl (And.intro rfl (And.intro rfl trivial))) (k_Mod_named_j94 hl)
set_option maxRecDepth 20000 in
theorem k_Mod_named_j36 {l : Launch} {X : zX} (hl : l.stackTraces = false) {h : zH} {v1 : Int32} {t0 : Int32} : zGl l m_Mod_named X 0 0 (f_Mod_named_j36 h v1 t0) (36, [some (zr (some (11, 333))), some (zi v1), none, none], [zi t0], h) (Sum.elim (fun s : Int32 => .inl (2, [some (zr (some (11, 333))), some (zi s), none, none], [], h)) (Sum.elim (fun y : Int32 => .inl (105, [none, some (zi y), none, none], [], h)) (fun y : Unit => .inl (113, [none, none, none, none], [], h)))) := by
  unfold f_Mod_named_j36
  refine zG_run t_Mod [(.istore_n 2, 0, 0), (.iconst 0, 0, 0), (.istore_n 3, 0, 0)] (39, [some (zr (some (11, 333))), some (zi v1), some (zi t0), some (zi 0)], [], h) (by decide +kernel) rfl ?_
  refine zG_forget (L' := [some (zr (some (11, 333))), some (zi v1), some (zi t0), some (zi 0)]) (And.intro rfl (And.intro rfl (And.intro rfl (And.intro rfl trivial)))) ?_
  refine zG_bind (fun y : Int32 => (101, [some (zr (some (11, 333))), some (zi v1), some (zi y), none], [], h)) (zG_iter (fun s : Int32 × Int32 => (39, [some (zr (some (11, 333))), some (zi v1), some (zi s.1), some (zi s.2)], [], h)) fun s => k_Mod_named_b39 hl) (fun y9 => ?_)
  refine zG_run t_Mod [(.iload_n 2, 0, 0)] (102, [some (zr (some (11, 333))), some (zi v1), some (zi y9), none], [zi y9], h) (by decide +kernel) rfl ?_
  refine zG_if (op := .eq) (off := 5) (tgt := 107) (by decide +kernel) rfl Iff.rfl (fun c10 => ?_) (fun c10 => ?_)
  · refine zG_run t_Mod [(.iinc 1 1, 0, 0), (.goto (-108), 0, 0)] (2, [some (zr (some (11, 333))), some (zi (v1 + 1)), some (zi y9), none], [], h) (by decide +kernel) rfl ?_
    exact zG_end (L' := [some (zr (some (11, 333))), some (zi (v1 + 1)), none, none]) rfl (And.intro rfl (And.intro rfl trivial))
  · exact zG_end (L' := [none, some (zi v1), none, none]) rfl (And.intro rfl trivial)
set_option maxRecDepth 20000 in
theorem k_Mod_named_b2 {l : Launch} {X : zX} (hl : l.stackTraces = false) {h : zH} {v1 : Int32} : zGl l m_Mod_named X 0 0 (f_Mod_named_b2 h v1) (2, [some (zr (some (11, 333))), some (zi v1), none, none], [], h) (Sum.elim (fun s : Int32 => .inl (2, [some (zr (some (11, 333))), some (zi s), none, none], [], h)) (Sum.elim (fun y : Int32 => .inl (105, [none, some (zi y), none, none], [], h)) (fun y : Unit => .inl (113, [none, none, none, none], [], h)))) := by
  unfold f_Mod_named_b2
  refine zG_run t_Mod [(.iload_n 1, 0, 0), (.aload_n 0, 0, 0)] (4, [some (zr (some (11, 333))), some (zi v1), none, none], [zr (some (11, 333)), zi v1], h) (by decide +kernel) rfl ?_
  refine zG_callV (idx := 248) (R := (fun a => (some (zi a), h))) (as := []) (rest := [zi v1]) (n := 0) (fun a ha => c_Mod_newLines hl ha) (by decide +kernel) ⟨ok_Mod_newLines, by decide, by decide +kernel⟩ rfl w_405 w_406 w_407 (by decide) rfl rfl rfl (Nat.le_of_ble_eq_true rfl) fun x1 => ?_
  refine zG_icmp (op := .ge) (off := 106) (tgt := 113) (by decide +kernel) rfl Iff.rfl (fun c12 => ?_) (fun c12 => ?_)
  · exact zG_end (L' := [none, none, none, none]) rfl (trivial)
  · refine zG_run t_Mod [(.aload_n 0, 0, 0), (.getfield 68, 11, 12), (.bipush 22, 0, 0), (.iload_n 1, 0, 0), (.iadd, 0, 0)] (18, [some (zr (some (11, 333))), some (zi v1), none, none], [zi (22 + v1), zr (some (71, 345))], h) (by decide +kernel) rfl ?_
    refine zG_ald (v := zi (h.1 345 (22 + v1).toNatClampNeg)) (n := 44) rfl (by decide +kernel) rfl rfl fun hb2 => ?_
    refine zG_run t_Mod [(.aload_n 0, 0, 0), (.getfield 213, 11, 23), (.aload_n 0, 0, 0), (.getfield 197, 11, 22), (.isub, 0, 0)] (28, [some (zr (some (11, 333))), some (zi v1), none, none], [zi ((h.1 333 23) - (h.1 333 22)), zi (h.1 345 (22 + v1).toNatClampNeg)], h) (by decide +kernel) rfl ?_
    refine zG_icmp (op := .ne) (off := 7) (tgt := 35) (by decide +kernel) rfl Iff.rfl (fun c11 => ?_) (fun c11 => ?_)
    · refine zG_run t_Mod [(.iconst 0, 0, 0)] (36, [some (zr (some (11, 333))), some (zi v1), none, none], [zi 0], h) (by decide +kernel) rfl ?_
      exact zG_forget (L' := [some (zr (some (11, 333))), some (zi v1), none, none]) (And.intro rfl (And.intro rfl trivial)) (k_Mod_named_j36 hl)
    · refine zG_run t_Mod [(.iconst 1, 0, 0), (.goto 4, 0, 0)] (36, [some (zr (some (11, 333))), some (zi v1), none, none], [zi 1], h) (by decide +kernel) rfl ?_
      exact zG_forget (L' := [some (zr (some (11, 333))), some (zi v1), none, none]) (And.intro rfl (And.intro rfl trivial)) (k_Mod_named_j36 hl)
set_option maxRecDepth 20000 in
theorem k_Mod_named {l : Launch} {X : zX} (hl : l.stackTraces = false) {h : zH} : zGl l m_Mod_named X 0 0 (f_Mod_named h) (0, [some (zr (some (11, 333))), none, none, none], [], h) (fun x => .inr ((fun a => (.inl (some (zi a)), h) : Int32 → zF) x)) := by
  unfold f_Mod_named
  refine zG_run t_Mod [(.iconst 0, 0, 0), (.istore_n 1, 0, 0)] (2, [some (zr (some (11, 333))), some (zi 0), none, none], [], h) (by decide +kernel) rfl ?_
  refine zG_forget (L' := [some (zr (some (11, 333))), some (zi 0), none, none]) (And.intro rfl (And.intro rfl trivial)) ?_
  refine zG_bind2 (fun y : Int32 => (105, [none, some (zi y), none, none], [], h)) (fun y : Unit => (113, [none, none, none, none], [], h)) (zG_iter (fun s : Int32 => (2, [some (zr (some (11, 333))), some (zi s), none, none], [], h)) fun s => k_Mod_named_b2 hl) (fun y14 => ?_) (fun y15 => ?_)
  · refine zG_run t_Mod [(.iload_n 1, 0, 0)] (106, [none, some (zi y14), none, none], [zi y14], h) (by decide +kernel) rfl ?_
    exact zG_ret (r := some (zi y14)) rfl (zrd_i rfl (by decide +kernel))
  · refine zG_run t_Mod [(.iconst (-1), 0, 0)] (114, [none, none, none, none], [zi (-1)], h) (by decide +kernel) rfl ?_
    exact zG_ret (r := some (zi (-1))) rfl (zrd_i rfl (by decide +kernel))
theorem c_Mod_named {l : Launch} {X : zX} (hl : l.stackTraces = false) {h : zH} {x : Int32} (hx : f_Mod_named h = some x) : zCt l (true, 2) 2 m_Mod_named X 0 0 [zr (some (11, 333))] h ((fun a => (.inl (some (zi a)), h) : Int32 → zF) x) :=
  zG_ct (R := fun a => (.inl (some (zi a)), h)) (x := x) ok_Mod_named hl (Nat.le_of_ble_eq_true rfl) hx (k_Mod_named hl)
def m_Mod_takeName : zM := (({ cls := "ScanPackerModel", name := "takeName", desc := "()V" } : Jvm.MethodName), prog_13_method_20_code, 3, (Option.none : Option Jvm.ClassFile.FieldType), [], 3)
theorem ok_Mod_takeName : zMok m_Mod_takeName := ⟨by decide +kernel, zW_of 1736 (by decide +kernel) (by decide +kernel), zW_of 134 (by decide +kernel) (by decide +kernel), by decide, by decide +kernel, by decide +kernel⟩
set_option maxRecDepth 20000 in
theorem k_Mod_takeName_j99 {l : Launch} {X : zX} (hl : l.stackTraces = false) {h : zH} {v1 : Int32} {v2 : Int32} {t0 : Int32} {t1 : Int32} : zGl l m_Mod_takeName X 0 0 (f_Mod_takeName_j99 h v1 v2 t0 t1) (99, [some (zr (some (11, 333))), some (zi v1), some (zi v2)], [zi t0, zi t1, zr (some (72, 346))], h) (Sum.elim (fun s : Int32 × zH => .inl (53, [some (zr (some (11, 333))), some (zi v1), some (zi s.1)], [], s.2)) (fun y : zH => .inl (106, [some (zr (some (11, 333))), some (zi v1), none], [], y))) := by
  unfold f_Mod_takeName_j99
  refine zG_guard fun hb6 => ?_
  refine zG_bind (fun y => (100, [some (zr (some (11, 333))), some (zi v1), some (zi v2)], [], y)) (zG_astc (h' := zsI h 346 t1.toNatClampNeg t0) rfl (by decide +kernel) hb6 rfl (zG_end (L' := [some (zr (some (11, 333))), some (zi v1), some (zi v2)]) rfl (And.intro rfl (And.intro rfl (And.intro rfl trivial))))) fun h5 => ?_
  refine zG_run t_Mod [(.iinc 2 1, 0, 0), (.goto (-50), 0, 0)] (53, [some (zr (some (11, 333))), some (zi v1), some (zi (v2 + 1))], [], h5) (by decide +kernel) rfl ?_
  exact zG_end (L' := [some (zr (some (11, 333))), some (zi v1), some (zi (v2 + 1))]) rfl (And.intro rfl (And.intro rfl (And.intro rfl trivial)))
set_option maxRecDepth 20000 in
theorem k_Mod_takeName_b53 {l : Launch} {X : zX} (hl : l.stackTraces = false) {h : zH} {v1 : Int32} {v2 : Int32} : zGl l m_Mod_takeName X 0 0 (f_Mod_takeName_b53 h v1 v2) (53, [some (zr (some (11, 333))), some (zi v1), some (zi v2)], [], h) (Sum.elim (fun s : Int32 × zH => .inl (53, [some (zr (some (11, 333))), some (zi v1), some (zi s.1)], [], s.2)) (fun y : zH => .inl (106, [some (zr (some (11, 333))), some (zi v1), none], [], y))) := by
  unfold f_Mod_takeName_b53
  refine zG_run t_Mod [(.iload_n 2, 0, 0), (.bipush 6, 0, 0)] (56, [some (zr (some (11, 333))), some (zi v1), some (zi v2)], [zi 6, zi v2], h) (by decide +kernel) rfl ?_
  refine zG_icmp (op := .ge) (off := 50) (tgt := 106) (by decide +kernel) rfl Iff.rfl (fun c9 => ?_) (fun c9 => ?_)
  · exact zG_end (L' := [some (zr (some (11, 333))), some (zi v1), none]) rfl (And.intro rfl (And.intro rfl trivial))
  · refine zG_run t_Mod [(.aload_n 0, 0, 0), (.getfield 71, 11, 13), (.bipush 6, 0, 0), (.iload_n 1, 0, 0), (.imul, 0, 0), (.iload_n 2, 0, 0), (.iadd, 0, 0), (.iload_n 2, 0, 0), (.aload_n 0, 0, 0), (.getfield 68, 11, 12), (.iload_n 1, 0, 0)] (75, [some (zr (some (11, 333))), some (zi v1), some (zi v2)], [zi v1, zr (some (71, 345)), zi v2, zi ((6 * v1) + v2), zr (some (72, 346))], h) (by decide +kernel) rfl ?_
    refine zG_ald (v := zi (h.1 345 v1.toNatClampNeg)) (n := 44) rfl (by decide +kernel) rfl rfl fun hb4 => ?_
    refine zG_icmp (op := .ge) (off := 22) (tgt := 98) (by decide +kernel) rfl Iff.rfl (fun c8 => ?_) (fun c8 => ?_)
    · refine zG_run t_Mod [(.iconst 0, 0, 0)] (99, [some (zr (some (11, 333))), some (zi v1), some (zi v2)], [zi 0, zi ((6 * v1) + v2), zr (some (72, 346))], h) (by decide +kernel) rfl ?_
      exact zG_forget (L' := [some (zr (some (11, 333))), some (zi v1), some (zi v2)]) (And.intro rfl (And.intro rfl (And.intro rfl trivial))) (k_Mod_takeName_j99 hl)
    · refine zG_run t_Mod [(.aload_n 0, 0, 0), (.getfield 80, 11, 16), (.aload_n 0, 0, 0), (.getfield 197, 11, 22), (.iload_n 2, 0, 0), (.iadd, 0, 0)] (89, [some (zr (some (11, 333))), some (zi v1), some (zi v2)], [zi ((h.1 333 22) + v2), zr (some (75, 349)), zi ((6 * v1) + v2), zr (some (72, 346))], h) (by decide +kernel) rfl ?_
      refine zG_ald (v := zi (h.1 349 ((h.1 333 22) + v2).toNatClampNeg)) (n := 900) rfl (by decide +kernel) rfl rfl fun hb7 => ?_
      refine zG_run t_Mod [(.bipush 97, 0, 0), (.isub, 0, 0), (.iconst 1, 0, 0), (.iadd, 0, 0), (.goto 4, 0, 0)] (99, [some (zr (some (11, 333))), some (zi v1), some (zi v2)], [zi (((h.1 349 ((h.1 333 22) + v2).toNatClampNeg) - 97) + 1), zi ((6 * v1) + v2), zr (some (72, 346))], h) (by decide +kernel) rfl ?_
      exact zG_forget (L' := [some (zr (some (11, 333))), some (zi v1), some (zi v2)]) (And.intro rfl (And.intro rfl (And.intro rfl trivial))) (k_Mod_takeName_j99 hl)
set_option maxRecDepth 20000 in
theorem k_Mod_takeName_j20 {l : Launch} {X : zX} (hl : l.stackTraces = false) {h : zH} : zGl l m_Mod_takeName X 0 0 (f_Mod_takeName_j20 h) (20, [some (zr (some (11, 333))), none, none], [], h) (fun x => .inr ((fun a => (.inl none, a) : zH → zF) x)) := by
  unfold f_Mod_takeName_j20
  refine zG_run t_Mod [(.aload_n 0, 0, 0), (.getfield 216, 11, 24)] (24, [some (zr (some (11, 333))), none, none], [zi (h.1 333 24)], h) (by decide +kernel) rfl ?_
  refine zG_if (op := .eq) (off := 4) (tgt := 28) (by decide +kernel) rfl Iff.rfl (fun c15 => ?_) (fun c15 => ?_)
  · refine zG_run t_Mod [(.bipush 22, 0, 0), (.aload_n 0, 0, 0)] (31, [some (zr (some (11, 333))), none, none], [zr (some (11, 333)), zi 22], h) (by decide +kernel) rfl ?_
    refine zG_callV (idx := 248) (R := (fun a => (some (zi a), h))) (as := []) (rest := [zi 22]) (n := 0) (fun a ha => c_Mod_newLines hl ha) (by decide +kernel) ⟨ok_Mod_newLines, by decide, by decide +kernel⟩ rfl w_405 w_406 w_407 (by decide) rfl rfl rfl (Nat.le_of_ble_eq_true rfl) fun x1 => ?_
    refine zG_run t_Mod [(.iadd, 0, 0), (.istore_n 1, 0, 0), (.aload_n 0, 0, 0), (.getfield 68, 11, 12), (.iload_n 1, 0, 0), (.aload_n 0, 0, 0), (.getfield 213, 11, 23), (.aload_n 0, 0, 0), (.getfield 197, 11, 22), (.isub, 0, 0)] (50, [some (zr (some (11, 333))), some (zi (22 + x1)), none], [zi ((h.1 333 23) - (h.1 333 22)), zi (22 + x1), zr (some (71, 345))], h) (by decide +kernel) rfl ?_
    refine zG_guard fun hb3 => ?_
    refine zG_bind (fun y => (51, [some (zr (some (11, 333))), some (zi (22 + x1)), none], [], y)) (zG_astc (h' := zsI h 345 (22 + x1).toNatClampNeg ((h.1 333 23) - (h.1 333 22))) rfl (by decide +kernel) hb3 rfl (zG_end (L' := [some (zr (some (11, 333))), some (zi (22 + x1)), none]) rfl (And.intro rfl (And.intro rfl trivial)))) fun h2 => ?_
    refine zG_run t_Mod [(.iconst 0, 0, 0), (.istore_n 2, 0, 0)] (53, [some (zr (some (11, 333))), some (zi (22 + x1)), some (zi 0)], [], h2) (by decide +kernel) rfl ?_
    refine zG_forget (L' := [some (zr (some (11, 333))), some (zi (22 + x1)), some (zi 0)]) (And.intro rfl (And.intro rfl (And.intro rfl trivial))) ?_
    refine zG_bind (fun y : zH => (106, [some (zr (some (11, 333))), some (zi (22 + x1)), none], [], y)) (zG_iter (fun s : Int32 × zH => (53, [some (zr (some (11, 333))), some (zi (22 + x1)), some (zi s.1)], [], s.2)) fun s => k_Mod_takeName_b53 hl) (fun y11 => ?_)
    refine zG_run t_Mod [(.aload_n 0, 0, 0), (.getfield 53, 11, 7), (.iload_n 1, 0, 0), (.iconst 0, 0, 0)] (112, [some (zr (some (11, 333))), some (zi (22 + x1)), none], [zi 0, zi (22 + x1), zr (some (66, 340))], y11) (by decide +kernel) rfl ?_
    refine zG_guard fun hb13 => ?_
    refine zG_bind (fun y => (113, [some (zr (some (11, 333))), some (zi (22 + x1)), none], [], y)) (zG_astc (h' := zsI y11 340 (22 + x1).toNatClampNeg 0) rfl (by decide +kernel) hb13 rfl (zG_end (L' := [some (zr (some (11, 333))), some (zi (22 + x1)), none]) rfl (And.intro rfl (And.intro rfl trivial)))) fun h12 => ?_
    refine zG_run t_Mod [(.aload_n 0, 0, 0)] (114, [some (zr (some (11, 333))), some (zi (22 + x1)), none], [zr (some (11, 333))], h12) (by decide +kernel) rfl ?_
    refine zG_callV (idx := 241) (R := (fun a => (none, a))) (as := []) (rest := []) (n := 0) (fun a ha => c_Mod_stepOn hl ha) (by decide +kernel) ⟨ok_Mod_stepOn, by decide, by decide +kernel⟩ rfl w_388 w_389 w_390 (by decide) rfl rfl rfl (Nat.le_of_ble_eq_true rfl) fun x14 => ?_
    exact zG_ret (r := none) rfl (zrd_v rfl (by decide +kernel))
  · exact zG_ret (r := none) rfl (zrd_v rfl (by decide +kernel))
set_option maxRecDepth 20000 in
theorem k_Mod_takeName {l : Launch} {X : zX} (hl : l.stackTraces = false) {h : zH} : zGl l m_Mod_takeName X 0 0 (f_Mod_takeName h) (0, [some (zr (some (11, 333))), none, none], [], h) (fun x => .inr ((fun a => (.inl none, a) : zH → zF) x)) := by
  unfold f_Mod_takeName
  refine zG_run t_Mod [(.aload_n 0, 0, 0), (.getfield 216, 11, 24)] (4, [some (zr (some (11, 333))), none, none], [zi (h.1 333 24)], h) (by decide +kernel) rfl ?_
  refine zG_if (op := .ne) (off := 16) (tgt := 20) (by decide +kernel) rfl Iff.rfl (fun c19 => ?_) (fun c19 => ?_)
  · exact zG_forget (L' := [some (zr (some (11, 333))), none, none]) (And.intro rfl trivial) (k_Mod_takeName_j20 hl)
  · refine zG_run t_Mod [(.aload_n 0, 0, 0)] (8, [some (zr (some (11, 333))), none, none], [zr (some (11, 333))], h) (by decide +kernel) rfl ?_
    refine zG_callV (idx := 251) (R := (fun a => (some (zi a), h))) (as := []) (rest := []) (n := 0) (fun a ha => c_Mod_named hl ha) (by decide +kernel) ⟨ok_Mod_named, by decide, by decide +kernel⟩ rfl w_408 w_409 w_410 (by decide) rfl rfl rfl (Nat.le_of_ble_eq_true rfl) fun x16 => ?_
    refine zG_run t_Mod [(.iconst (-1), 0, 0)] (12, [some (zr (some (11, 333))), none, none], [zi (-1), zi x16], h) (by decide +kernel) rfl ?_
    refine zG_icmp (op := .eq) (off := 8) (tgt := 20) (by decide +kernel) rfl Iff.rfl (fun c18 => ?_) (fun c18 => ?_)
    · exact zG_forget (L' := [some (zr (some (11, 333))), none, none]) (And.intro rfl trivial) (k_Mod_takeName_j20 hl)
    · refine zG_run t_Mod [(.aload_n 0, 0, 0), (.iconst 4, 0, 0)] (17, [some (zr (some (11, 333))), none, none], [zi 4, zr (some (11, 333))], h) (by decide +kernel) rfl ?_
      refine zG_callV (idx := 237) (R := (fun a => (none, a))) (as := [zi 4]) (rest := []) (n := 1) (fun a ha => c_Mod_wrong hl ha) (by decide +kernel) ⟨ok_Mod_wrong, by decide, by decide +kernel⟩ rfl w_396 w_397 w_398 (by decide) rfl rfl rfl (Nat.le_of_ble_eq_true rfl) fun x17 => ?_
      exact zG_forget (L' := [some (zr (some (11, 333))), none, none]) (And.intro rfl trivial) (k_Mod_takeName_j20 hl)
theorem c_Mod_takeName {l : Launch} {X : zX} (hl : l.stackTraces = false) {h : zH} {x : zH} (hx : f_Mod_takeName h = some x) : zCt l (true, 2) 2 m_Mod_takeName X 0 0 [zr (some (11, 333))] h ((fun a => (.inl none, a) : zH → zF) x) :=
  zG_ct (R := fun a => (.inl none, a)) (x := x) ok_Mod_takeName hl (Nat.le_of_ble_eq_true rfl) hx (k_Mod_takeName hl)
def m_Mod_isMarked : zM := (({ cls := "ScanPackerModel", name := "isMarked", desc := "(I)Z" } : Jvm.MethodName), prog_13_method_15_code, 2, (Option.some Jvm.ClassFile.FieldType.boolean), [], 1)
theorem ok_Mod_isMarked : zMok m_Mod_isMarked := ⟨by decide +kernel, zW_of 1780 (by decide +kernel) (by decide +kernel), zW_of 134 (by decide +kernel) (by decide +kernel), by decide, by decide +kernel, by decide +kernel⟩
set_option maxRecDepth 20000 in
theorem k_Mod_isMarked {l : Launch} {X : zX} (hl : l.stackTraces = false) {h : zH} {v1 : Int32} : zGl l m_Mod_isMarked X 0 0 (f_Mod_isMarked h v1) (0, [some (zr (some (11, 333))), some (zi v1)], [], h) (fun x => .inr ((fun a => (.inl (some (zi a)), h) : Int32 → zF) x)) := by
  unfold f_Mod_isMarked
  refine zG_run t_Mod [(.aload_n 0, 0, 0), (.getfield 216, 11, 24)] (4, [some (zr (some (11, 333))), some (zi v1)], [zi (h.1 333 24)], h) (by decide +kernel) rfl ?_
  refine zG_if (op := .ne) (off := 28) (tgt := 32) (by decide +kernel) rfl Iff.rfl (fun c4 => ?_) (fun c4 => ?_)
  · refine zG_run t_Mod [(.iconst 0, 0, 0)] (33, [some (zr (some (11, 333))), some (zi v1)], [zi 0], h) (by decide +kernel) rfl ?_
    exact zG_ret (r := some (zi 0)) rfl (zrd_z rfl (by decide +kernel) rfl)
  · refine zG_run t_Mod [(.aload_n 0, 0, 0), (.getfield 200, 11, 20), (.iconst 3, 0, 0)] (12, [some (zr (some (11, 333))), some (zi v1)], [zi 3, zi (h.1 333 20)], h) (by decide +kernel) rfl ?_
    refine zG_icmp (op := .ne) (off := 20) (tgt := 32) (by decide +kernel) rfl Iff.rfl (fun c3 => ?_) (fun c3 => ?_)
    · refine zG_run t_Mod [(.iconst 0, 0, 0)] (33, [some (zr (some (11, 333))), some (zi v1)], [zi 0], h) (by decide +kernel) rfl ?_
      exact zG_ret (r := some (zi 0)) rfl (zrd_z rfl (by decide +kernel) rfl)
    · refine zG_run t_Mod [(.aload_n 0, 0, 0), (.getfield 80, 11, 16), (.aload_n 0, 0, 0), (.getfield 197, 11, 22)] (23, [some (zr (some (11, 333))), some (zi v1)], [zi (h.1 333 22), zr (some (75, 349))], h) (by decide +kernel) rfl ?_
      refine zG_ald (v := zi (h.1 349 (h.1 333 22).toNatClampNeg)) (n := 900) rfl (by decide +kernel) rfl rfl fun hb1 => ?_
      refine zG_run t_Mod [(.iload_n 1, 0, 0)] (25, [some (zr (some (11, 333))), some (zi v1)], [zi v1, zi (h.1 349 (h.1 333 22).toNatClampNeg)], h) (by decide +kernel) rfl ?_
      refine zG_icmp (op := .ne) (off := 7) (tgt := 32) (by decide +kernel) rfl Iff.rfl (fun c2 => ?_) (fun c2 => ?_)
      · refine zG_run t_Mod [(.iconst 0, 0, 0)] (33, [some (zr (some (11, 333))), some (zi v1)], [zi 0], h) (by decide +kernel) rfl ?_
        exact zG_ret (r := some (zi 0)) rfl (zrd_z rfl (by decide +kernel) rfl)
      · refine zG_run t_Mod [(.iconst 1, 0, 0), (.goto 4, 0, 0)] (33, [some (zr (some (11, 333))), some (zi v1)], [zi 1], h) (by decide +kernel) rfl ?_
        exact zG_ret (r := some (zi 1)) rfl (zrd_z rfl (by decide +kernel) rfl)
theorem c_Mod_isMarked {l : Launch} {X : zX} (hl : l.stackTraces = false) {h : zH} {v1 : Int32} {x : Int32} (hx : f_Mod_isMarked h v1 = some x) : zCt l (true, 2) 2 m_Mod_isMarked X 0 0 [zr (some (11, 333)), zi v1] h ((fun a => (.inl (some (zi a)), h) : Int32 → zF) x) :=
  zG_ct (R := fun a => (.inl (some (zi a)), h)) (x := x) ok_Mod_isMarked hl (Nat.le_of_ble_eq_true rfl) hx (k_Mod_isMarked hl)
def m_Mod_mark : zM := (({ cls := "ScanPackerModel", name := "mark", desc := "(I)V" } : Jvm.MethodName), prog_13_method_16_code, 2, (Option.none : Option Jvm.ClassFile.FieldType), [], 3)
theorem ok_Mod_mark : zMok m_Mod_mark := ⟨by decide +kernel, zW_of 1776 (by decide +kernel) (by decide +kernel), zW_of 134 (by decide +kernel) (by decide +kernel), by decide, by decide +kernel, by decide +kernel⟩
set_option maxRecDepth 20000 in
theorem k_Mod_mark_j20 {l : Launch} {X : zX} (hl : l.stackTraces = false) {h : zH} : zGl l m_Mod_mark X 0 0 (f_Mod_mark_j20 h) (20, [some (zr (some (11, 333))), none], [], h) (fun x => .inr ((fun a => (.inl none, a) : zH → zF) x)) := by
  unfold f_Mod_mark_j20
  refine zG_run t_Mod [(.aload_n 0, 0, 0), (.getfield 216, 11, 24)] (24, [some (zr (some (11, 333))), none], [zi (h.1 333 24)], h) (by decide +kernel) rfl ?_
  refine zG_if (op := .ne) (off := 7) (tgt := 31) (by decide +kernel) rfl Iff.rfl (fun c2 => ?_) (fun c2 => ?_)
  · exact zG_ret (r := none) rfl (zrd_v rfl (by decide +kernel))
  · refine zG_run t_Mod [(.aload_n 0, 0, 0)] (28, [some (zr (some (11, 333))), none], [zr (some (11, 333))], h) (by decide +kernel) rfl ?_
    refine zG_callV (idx := 241) (R := (fun a => (none, a))) (as := []) (rest := []) (n := 0) (fun a ha => c_Mod_stepOn hl ha) (by decide +kernel) ⟨ok_Mod_stepOn, by decide, by decide +kernel⟩ rfl w_388 w_389 w_390 (by decide) rfl rfl rfl (Nat.le_of_ble_eq_true rfl) fun x1 => ?_
    exact zG_ret (r := none) rfl (zrd_v rfl (by decide +kernel))
set_option maxRecDepth 20000 in
theorem k_Mod_mark {l : Launch} {X : zX} (hl : l.stackTraces = false) {h : zH} {v1 : Int32} : zGl l m_Mod_mark X 0 0 (f_Mod_mark h v1) (0, [some (zr (some (11, 333))), some (zi v1)], [], h) (fun x => .inr ((fun a => (.inl none, a) : zH → zF) x)) := by
  unfold f_Mod_mark
  refine zG_run t_Mod [(.aload_n 0, 0, 0), (.getfield 216, 11, 24)] (4, [some (zr (some (11, 333))), some (zi v1)], [zi (h.1 333 24)], h) (by decide +kernel) rfl ?_
  refine zG_if (op := .ne) (off := 16) (tgt := 20) (by decide +kernel) rfl Iff.rfl (fun c6 => ?_) (fun c6 => ?_)
  · exact zG_forget (L' := [some (zr (some (11, 333))), none]) (And.intro rfl trivial) (k_Mod_mark_j20 hl)
  · refine zG_run t_Mod [(.aload_n 0, 0, 0), (.iload_n 1, 0, 0)] (9, [some (zr (some (11, 333))), some (zi v1)], [zi v1, zr (some (11, 333))], h) (by decide +kernel) rfl ?_
    refine zG_callV (idx := 234) (R := (fun a => (some (zi a), h))) (as := [zi v1]) (rest := []) (n := 1) (fun a ha => c_Mod_isMarked hl ha) (by decide +kernel) ⟨ok_Mod_isMarked, by decide, by decide +kernel⟩ rfl w_414 w_415 w_416 (by decide) rfl rfl rfl (Nat.le_of_ble_eq_true rfl) fun x3 => ?_
    refine zG_if (op := .ne) (off := 8) (tgt := 20) (by decide +kernel) rfl Iff.rfl (fun c5 => ?_) (fun c5 => ?_)
    · exact zG_forget (L' := [some (zr (some (11, 333))), none]) (And.intro rfl trivial) (k_Mod_mark_j20 hl)
    · refine zG_run t_Mod [(.aload_n 0, 0, 0), (.iconst 1, 0, 0)] (17, [some (zr (some (11, 333))), some (zi v1)], [zi 1, zr (some (11, 333))], h) (by decide +kernel) rfl ?_
      refine zG_callV (idx := 237) (R := (fun a => (none, a))) (as := [zi 1]) (rest := []) (n := 1) (fun a ha => c_Mod_wrong hl ha) (by decide +kernel) ⟨ok_Mod_wrong, by decide, by decide +kernel⟩ rfl w_396 w_397 w_398 (by decide) rfl rfl rfl (Nat.le_of_ble_eq_true rfl) fun x4 => ?_
      exact zG_forget (L' := [some (zr (some (11, 333))), none]) (And.intro rfl trivial) (k_Mod_mark_j20 hl)
theorem c_Mod_mark {l : Launch} {X : zX} (hl : l.stackTraces = false) {h : zH} {v1 : Int32} {x : zH} (hx : f_Mod_mark h v1 = some x) : zCt l (true, 2) 2 m_Mod_mark X 0 0 [zr (some (11, 333)), zi v1] h ((fun a => (.inl none, a) : zH → zF) x) :=
  zG_ct (R := fun a => (.inl none, a)) (x := x) ok_Mod_mark hl (Nat.le_of_ble_eq_true rfl) hx (k_Mod_mark hl)
def m_Mod_lineNow : zM := (({ cls := "ScanPackerModel", name := "lineNow", desc := "()I" } : Jvm.MethodName), prog_13_method_21_code, 2, (Option.some Jvm.ClassFile.FieldType.int), [], 9)
theorem ok_Mod_lineNow : zMok m_Mod_lineNow := ⟨by decide +kernel, zW_of 1752 (by decide +kernel) (by decide +kernel), zW_of 134 (by decide +kernel) (by decide +kernel), by decide, by decide +kernel, by decide +kernel⟩
set_option maxRecDepth 20000 in
theorem k_Mod_lineNow_j24 {l : Launch} {X : zX} (hl : l.stackTraces = false) {h : zH} {v1 : Int32} : zGl l m_Mod_lineNow X 0 0 (f_Mod_lineNow_j24 h v1) (24, [none, some (zi v1)], [], h) (fun x => .inr ((fun a => (.inl (some (zi a.1)), a.2) : Int32 × zH → zF) x)) := by
  unfold f_Mod_lineNow_j24
  refine zG_run t_Mod [(.iload_n 1, 0, 0), (.iconst (-1), 0, 0)] (26, [none, some (zi v1)], [zi (-1), zi v1], h) (by decide +kernel) rfl ?_
  refine zG_icmp (op := .ne) (off := 7) (tgt := 33) (by decide +kernel) rfl Iff.rfl (fun c3 => ?_) (fun c3 => ?_)
  · refine zG_run t_Mod [(.iload_n 1, 0, 0)] (34, [none, some (zi v1)], [zi v1], h) (by decide +kernel) rfl ?_
    exact zG_ret (r := some (zi v1)) rfl (zrd_i rfl (by decide +kernel))
  · refine zG_run t_Mod [(.iconst 0, 0, 0), (.goto 4, 0, 0)] (34, [none, some (zi v1)], [zi 0], h) (by decide +kernel) rfl ?_
    exact zG_ret (r := some (zi 0)) rfl (zrd_i rfl (by decide +kernel))
set_option maxRecDepth 20000 in
theorem k_Mod_lineNow {l : Launch} {X : zX} (hl : l.stackTraces = false) {h : zH} : zGl l m_Mod_lineNow X 0 0 (f_Mod_lineNow h) (0, [some (zr (some (11, 333))), none], [], h) (fun x => .inr ((fun a => (.inl (some (zi a.1)), a.2) : Int32 × zH → zF) x)) := by
  unfold f_Mod_lineNow
  refine zG_run t_Mod [(.aload_n 0, 0, 0)] (1, [some (zr (some (11, 333))), none], [zr (some (11, 333))], h) (by decide +kernel) rfl ?_
  refine zG_callV (idx := 254) (R := (fun a => (some (zi a.1), a.2))) (as := []) (rest := []) (n := 0) (fun a ha => c_Mod_wordHere hl ha) (by decide +kernel) ⟨ok_Mod_wordHere, by decide, by decide +kernel⟩ rfl w_402 w_403 w_404 (by decide) rfl rfl rfl (Nat.le_of_ble_eq_true rfl) fun x1 => ?_
  refine zG_if (op := .ne) (off := 5) (tgt := 9) (by decide +kernel) rfl Iff.rfl (fun c6 => ?_) (fun c6 => ?_)
  · refine zG_run t_Mod [(.aload_n 0, 0, 0)] (10, [some (zr (some (11, 333))), none], [zr (some (11, 333))], x1.2) (by decide +kernel) rfl ?_
    refine zG_callV (idx := 251) (R := (fun a => (some (zi a), x1.2))) (as := []) (rest := []) (n := 0) (fun a ha => c_Mod_named hl ha) (by decide +kernel) ⟨ok_Mod_named, by decide, by decide +kernel⟩ rfl w_408 w_409 w_410 (by decide) rfl rfl rfl (Nat.le_of_ble_eq_true rfl) fun x2 => ?_
    refine zG_run t_Mod [(.istore_n 1, 0, 0), (.iload_n 1, 0, 0), (.iconst (-1), 0, 0)] (16, [some (zr (some (11, 333))), some (zi x2)], [zi (-1), zi x2], x1.2) (by decide +kernel) rfl ?_
    refine zG_icmp (op := .ne) (off := 8) (tgt := 24) (by decide +kernel) rfl Iff.rfl (fun c5 => ?_) (fun c5 => ?_)
    · exact zG_forget (L' := [none, some (zi x2)]) (And.intro rfl trivial) (k_Mod_lineNow_j24 hl)
    · refine zG_run t_Mod [(.aload_n 0, 0, 0), (.iconst 3, 0, 0)] (21, [some (zr (some (11, 333))), some (zi x2)], [zi 3, zr (some (11, 333))], x1.2) (by decide +kernel) rfl ?_
      refine zG_callV (idx := 237) (R := (fun a => (none, a))) (as := [zi 3]) (rest := []) (n := 1) (fun a ha => c_Mod_wrong hl ha) (by decide +kernel) ⟨ok_Mod_wrong, by decide, by decide +kernel⟩ rfl w_396 w_397 w_398 (by decide) rfl rfl rfl (Nat.le_of_ble_eq_true rfl) fun x4 => ?_
      exact zG_forget (L' := [none, some (zi x2)]) (And.intro rfl trivial) (k_Mod_lineNow_j24 hl)
  · refine zG_run t_Mod [(.iconst 0, 0, 0)] (8, [some (zr (some (11, 333))), none], [zi 0], x1.2) (by decide +kernel) rfl ?_
    exact zG_ret (r := some (zi 0)) rfl (zrd_i rfl (by decide +kernel))
theorem c_Mod_lineNow {l : Launch} {X : zX} (hl : l.stackTraces = false) {h : zH} {x : Int32 × zH} (hx : f_Mod_lineNow h = some x) : zCt l (true, 2) 2 m_Mod_lineNow X 0 0 [zr (some (11, 333))] h ((fun a => (.inl (some (zi a.1)), a.2) : Int32 × zH → zF) x) :=
  zG_ct (R := fun a => (.inl (some (zi a.1)), a.2)) (x := x) ok_Mod_lineNow hl (Nat.le_of_ble_eq_true rfl) hx (k_Mod_lineNow hl)
def m_Mod_readGate : zM := (({ cls := "ScanPackerModel", name := "readGate", desc := "()V" } : Jvm.MethodName), prog_13_method_24_code, 5, (Option.none : Option Jvm.ClassFile.FieldType), [], 10)
theorem ok_Mod_readGate : zMok m_Mod_readGate := ⟨by decide +kernel, zW_of 1772 (by decide +kernel) (by decide +kernel), zW_of 134 (by decide +kernel) (by decide +kernel), by decide, by decide +kernel, by decide +kernel⟩
set_option maxRecDepth 20000 in
theorem k_Mod_readGate_j129 {l : Launch} {X : zX} (hl : l.stackTraces = false) {h : zH} {v1 : Int32} {v2 : Int32} {v3 : Int32} {v4 : Int32} : zGl l m_Mod_readGate X 0 0 (f_Mod_readGate_j129 h v1 v2 v3 v4) (129, [some (zr (some (11, 333))), some (zi v1), some (zi v2), some (zi v3), some (zi v4)], [], h) (Sum.elim (fun s : Int32 × zH => .inl (93, [some (zr (some (11, 333))), some (zi v1), some (zi v2), some (zi v3), some (zi s.1)], [], s.2)) (fun y : Int32 × zH => .inl (161, [some (zr (some (11, 333))), some (zi v1), some (zi v2), none, some (zi y.1)], [], y.2))) := by
  unfold f_Mod_readGate_j129
  refine zG_run t_Mod [(.aload_n 0, 0, 0), (.getfield 50, 11, 6), (.iconst 3, 0, 0), (.iload_n 1, 0, 0), (.imul, 0, 0), (.iload 4, 0, 0), (.iadd, 0, 0), (.aload_n 0, 0, 0)] (140, [some (zr (some (11, 333))), some (zi v1), some (zi v2), some (zi v3), some (zi v4)], [zr (some (11, 333)), zi ((3 * v1) + v4), zr (some (65, 339))], h) (by decide +kernel) rfl ?_
  refine zG_callV (idx := 258) (R := (fun a => (some (zi a.1), a.2))) (as := []) (rest := [zi ((3 * v1) + v4), zr (some (65, 339))]) (n := 0) (fun a ha => c_Mod_lineNow hl ha) (by decide +kernel) ⟨ok_Mod_lineNow, by decide, by decide +kernel⟩ rfl w_420 w_421 w_422 (by decide) rfl rfl rfl (Nat.le_of_ble_eq_true rfl) fun x7 => ?_
  refine zG_guard fun hb9 => ?_
  refine zG_bind (fun y => (144, [some (zr (some (11, 333))), some (zi v1), some (zi v2), some (zi v3), some (zi v4)], [], y)) (zG_astc (h' := zsI x7.2 339 ((3 * v1) + v4).toNatClampNeg x7.1) rfl (by decide +kernel) hb9 rfl (zG_end (L' := [some (zr (some (11, 333))), some (zi v1), some (zi v2), some (zi v3), some (zi v4)]) rfl (And.intro rfl (And.intro rfl (And.intro rfl (And.intro rfl (And.intro rfl trivial))))))) fun h8 => ?_
  refine zG_run t_Mod [(.iinc 4 1, 0, 0), (.aload_n 0, 0, 0), (.getfield 216, 11, 24)] (151, [some (zr (some (11, 333))), some (zi v1), some (zi v2), some (zi v3), some (zi (v4 + 1))], [zi (h8.1 333 24)], h8) (by decide +kernel) rfl ?_
  refine zG_if (op := .ne) (off := -58) (tgt := 93) (by decide +kernel) rfl Iff.rfl (fun c11 => ?_) (fun c11 => ?_)
  · exact zG_end (L' := [some (zr (some (11, 333))), some (zi v1), some (zi v2), some (zi v3), some (zi (v4 + 1))]) rfl (And.intro rfl (And.intro rfl (And.intro rfl (And.intro rfl (And.intro rfl trivial)))))
  · refine zG_run t_Mod [(.aload_n 0, 0, 0)] (155, [some (zr (some (11, 333))), some (zi v1), some (zi v2), some (zi v3), some (zi (v4 + 1))], [zr (some (11, 333))], h8) (by decide +kernel) rfl ?_
    refine zG_callV (idx := 241) (R := (fun a => (none, a))) (as := []) (rest := []) (n := 0) (fun a ha => c_Mod_stepOn hl ha) (by decide +kernel) ⟨ok_Mod_stepOn, by decide, by decide +kernel⟩ rfl w_388 w_389 w_390 (by decide) rfl rfl rfl (Nat.le_of_ble_eq_true rfl) fun x10 => ?_
    refine zG_run t_Mod [(.goto (-65), 0, 0)] (93, [some (zr (some (11, 333))), some (zi v1), some (zi v2), some (zi v3), some (zi (v4 + 1))], [], x10) (by decide +kernel) rfl ?_
    exact zG_end (L' := [some (zr (some (11, 333))), some (zi v1), some (zi v2), some (zi v3), some (zi (v4 + 1))]) rfl (And.intro rfl (And.intro rfl (And.intro rfl (And.intro rfl (And.intro rfl trivial)))))
set_option maxRecDepth 20000 in
theorem k_Mod_readGate_j117 {l : Launch} {X : zX} (hl : l.stackTraces = false) {h : zH} {v1 : Int32} {v2 : Int32} {v3 : Int32} {v4 : Int32} {t0 : Int32} {t1 : Int32} : zGl l m_Mod_readGate X 0 0 (f_Mod_readGate_j117 h v1 v2 v3 v4 t0 t1) (117, [some (zr (some (11, 333))), some (zi v1), some (zi v2), some (zi v3), some (zi v4)], [zi t0, zi t1], h) (Sum.elim (fun s : Int32 × zH => .inl (93, [some (zr (some (11, 333))), some (zi v1), some (zi v2), some (zi v3), some (zi s.1)], [], s.2)) (fun y : Int32 × zH => .inl (161, [some (zr (some (11, 333))), some (zi v1), some (zi v2), none, some (zi y.1)], [], y.2))) := by
  unfold f_Mod_readGate_j117
  refine zG_icmp (op := .lt) (off := 12) (tgt := 129) (by decide +kernel) rfl Iff.rfl (fun c14 => ?_) (fun c14 => ?_)
  · exact zG_forget (L' := [some (zr (some (11, 333))), some (zi v1), some (zi v2), some (zi v3), some (zi v4)]) (And.intro rfl (And.intro rfl (And.intro rfl (And.intro rfl (And.intro rfl trivial))))) (k_Mod_readGate_j129 hl)
  · refine zG_run t_Mod [(.aload_n 0, 0, 0), (.bipush 59, 0, 0)] (123, [some (zr (some (11, 333))), some (zi v1), some (zi v2), some (zi v3), some (zi v4)], [zi 59, zr (some (11, 333))], h) (by decide +kernel) rfl ?_
    refine zG_callV (idx := 234) (R := (fun a => (some (zi a), h))) (as := [zi 59]) (rest := []) (n := 1) (fun a ha => c_Mod_isMarked hl ha) (by decide +kernel) ⟨ok_Mod_isMarked, by decide, by decide +kernel⟩ rfl w_414 w_415 w_416 (by decide) rfl rfl rfl (Nat.le_of_ble_eq_true rfl) fun x12 => ?_
    refine zG_if (op := .ne) (off := 35) (tgt := 161) (by decide +kernel) rfl Iff.rfl (fun c13 => ?_) (fun c13 => ?_)
    · exact zG_end (L' := [some (zr (some (11, 333))), some (zi v1), some (zi v2), none, some (zi v4)]) rfl (And.intro rfl (And.intro rfl (And.intro rfl (And.intro rfl trivial))))
    · exact zG_forget (L' := [some (zr (some (11, 333))), some (zi v1), some (zi v2), some (zi v3), some (zi v4)]) (And.intro rfl (And.intro rfl (And.intro rfl (And.intro rfl (And.intro rfl trivial))))) (k_Mod_readGate_j129 hl)
set_option maxRecDepth 20000 in
theorem k_Mod_readGate_b93 {l : Launch} {X : zX} (hl : l.stackTraces = false) {h : zH} {v1 : Int32} {v2 : Int32} {v3 : Int32} {v4 : Int32} : zGl l m_Mod_readGate X 0 0 (f_Mod_readGate_b93 h v1 v2 v3 v4) (93, [some (zr (some (11, 333))), some (zi v1), some (zi v2), some (zi v3), some (zi v4)], [], h) (Sum.elim (fun s : Int32 × zH => .inl (93, [some (zr (some (11, 333))), some (zi v1), some (zi v2), some (zi v3), some (zi s.1)], [], s.2)) (fun y : Int32 × zH => .inl (161, [some (zr (some (11, 333))), some (zi v1), some (zi v2), none, some (zi y.1)], [], y.2))) := by
  unfold f_Mod_readGate_b93
  refine zG_run t_Mod [(.iload 4, 0, 0), (.iload_n 3, 0, 0)] (96, [some (zr (some (11, 333))), some (zi v1), some (zi v2), some (zi v3), some (zi v4)], [zi v3, zi v4], h) (by decide +kernel) rfl ?_
  refine zG_icmp (op := .ge) (off := 65) (tgt := 161) (by decide +kernel) rfl Iff.rfl (fun c17 => ?_) (fun c17 => ?_)
  · exact zG_end (L' := [some (zr (some (11, 333))), some (zi v1), some (zi v2), none, some (zi v4)]) rfl (And.intro rfl (And.intro rfl (And.intro rfl (And.intro rfl trivial))))
  · refine zG_run t_Mod [(.aload_n 0, 0, 0), (.getfield 216, 11, 24)] (103, [some (zr (some (11, 333))), some (zi v1), some (zi v2), some (zi v3), some (zi v4)], [zi (h.1 333 24)], h) (by decide +kernel) rfl ?_
    refine zG_if (op := .ne) (off := 58) (tgt := 161) (by decide +kernel) rfl Iff.rfl (fun c16 => ?_) (fun c16 => ?_)
    · exact zG_end (L' := [some (zr (some (11, 333))), some (zi v1), some (zi v2), none, some (zi v4)]) rfl (And.intro rfl (And.intro rfl (And.intro rfl (And.intro rfl trivial))))
    · refine zG_run t_Mod [(.iload 4, 0, 0), (.iload_n 2, 0, 0)] (109, [some (zr (some (11, 333))), some (zi v1), some (zi v2), some (zi v3), some (zi v4)], [zi v2, zi v4], h) (by decide +kernel) rfl ?_
      refine zG_if (op := .ne) (off := 7) (tgt := 116) (by decide +kernel) rfl Iff.rfl (fun c15 => ?_) (fun c15 => ?_)
      · refine zG_run t_Mod [(.iconst 2, 0, 0)] (117, [some (zr (some (11, 333))), some (zi v1), some (zi v2), some (zi v3), some (zi v4)], [zi 2, zi v4], h) (by decide +kernel) rfl ?_
        exact zG_forget (L' := [some (zr (some (11, 333))), some (zi v1), some (zi v2), some (zi v3), some (zi v4)]) (And.intro rfl (And.intro rfl (And.intro rfl (And.intro rfl (And.intro rfl trivial))))) (k_Mod_readGate_j117 hl)
      · refine zG_run t_Mod [(.iconst 1, 0, 0), (.goto 4, 0, 0)] (117, [some (zr (some (11, 333))), some (zi v1), some (zi v2), some (zi v3), some (zi v4)], [zi 1, zi v4], h) (by decide +kernel) rfl ?_
        exact zG_forget (L' := [some (zr (some (11, 333))), some (zi v1), some (zi v2), some (zi v3), some (zi v4)]) (And.intro rfl (And.intro rfl (And.intro rfl (And.intro rfl (And.intro rfl trivial))))) (k_Mod_readGate_j117 hl)
set_option maxRecDepth 20000 in
theorem k_Mod_readGate_j89 {l : Launch} {X : zX} (hl : l.stackTraces = false) {h : zH} {v1 : Int32} {v2 : Int32} {t0 : Int32} : zGl l m_Mod_readGate X 0 0 (f_Mod_readGate_j89 h v1 v2 t0) (89, [some (zr (some (11, 333))), some (zi v1), some (zi v2), none, none], [zi t0], h) (fun x => .inr ((fun a => (.inl none, a) : zH → zF) x)) := by
  unfold f_Mod_readGate_j89
  refine zG_run t_Mod [(.istore_n 3, 0, 0), (.iconst 0, 0, 0), (.istore 4, 0, 0)] (93, [some (zr (some (11, 333))), some (zi v1), some (zi v2), some (zi t0), some (zi 0)], [], h) (by decide +kernel) rfl ?_
  refine zG_forget (L' := [some (zr (some (11, 333))), some (zi v1), some (zi v2), some (zi t0), some (zi 0)]) (And.intro rfl (And.intro rfl (And.intro rfl (And.intro rfl (And.intro rfl trivial))))) ?_
  refine zG_bind (fun y : Int32 × zH => (161, [some (zr (some (11, 333))), some (zi v1), some (zi v2), none, some (zi y.1)], [], y.2)) (zG_iter (fun s : Int32 × zH => (93, [some (zr (some (11, 333))), some (zi v1), some (zi v2), some (zi t0), some (zi s.1)], [], s.2)) fun s => k_Mod_readGate_b93 hl) (fun y19 => ?_)
  refine zG_run t_Mod [(.aload_n 0, 0, 0), (.getfield 44, 11, 4), (.iload_n 1, 0, 0), (.iload_n 2, 0, 0)] (167, [some (zr (some (11, 333))), some (zi v1), some (zi v2), none, some (zi y19.1)], [zi v2, zi v1, zr (some (63, 337))], y19.2) (by decide +kernel) rfl ?_
  refine zG_guard fun hb21 => ?_
  refine zG_bind (fun y => (168, [some (zr (some (11, 333))), some (zi v1), some (zi v2), none, some (zi y19.1)], [], y)) (zG_astc (h' := zsI y19.2 337 v1.toNatClampNeg v2) rfl (by decide +kernel) hb21 rfl (zG_end (L' := [some (zr (some (11, 333))), some (zi v1), some (zi v2), none, some (zi y19.1)]) rfl (And.intro rfl (And.intro rfl (And.intro rfl (And.intro rfl trivial)))))) fun h20 => ?_
  refine zG_run t_Mod [(.aload_n 0, 0, 0), (.getfield 47, 11, 5), (.iload_n 1, 0, 0), (.iload 4, 0, 0)] (175, [some (zr (some (11, 333))), some (zi v1), some (zi v2), none, some (zi y19.1)], [zi y19.1, zi v1, zr (some (64, 338))], h20) (by decide +kernel) rfl ?_
  refine zG_guard fun hb23 => ?_
  refine zG_bind (fun y => (176, [some (zr (some (11, 333))), some (zi v1), some (zi v2), none, some (zi y19.1)], [], y)) (zG_astc (h' := zsI h20 338 v1.toNatClampNeg y19.1) rfl (by decide +kernel) hb23 rfl (zG_end (L' := [some (zr (some (11, 333))), some (zi v1), some (zi v2), none, some (zi y19.1)]) rfl (And.intro rfl (And.intro rfl (And.intro rfl (And.intro rfl trivial)))))) fun h22 => ?_
  refine zG_run t_Mod [(.aload_n 0, 0, 0), (.getfield 40, 11, 3), (.bipush 6, 0, 0), (.dup2, 0, 0)] (183, [some (zr (some (11, 333))), some (zi v1), some (zi v2), none, some (zi y19.1)], [zi 6, zr (some (62, 336)), zi 6, zr (some (62, 336))], h22) (by decide +kernel) rfl ?_
  refine zG_aldc (v := zi (h22.1 336 6)) rfl (by decide +kernel) (by decide +kernel) rfl ?_
  refine zG_run t_Mod [(.iconst 1, 0, 0), (.iadd, 0, 0)] (186, [some (zr (some (11, 333))), some (zi v1), some (zi v2), none, some (zi y19.1)], [zi ((h22.1 336 6) + 1), zi 6, zr (some (62, 336))], h22) (by decide +kernel) rfl ?_
  refine zG_bind (fun y => (187, [some (zr (some (11, 333))), some (zi v1), some (zi v2), none, some (zi y19.1)], [], y)) (zG_astc (h' := zsI h22 336 6 ((h22.1 336 6) + 1)) rfl (by decide +kernel) (by decide +kernel) rfl (zG_end (L' := [some (zr (some (11, 333))), some (zi v1), some (zi v2), none, some (zi y19.1)]) rfl (And.intro rfl (And.intro rfl (And.intro rfl (And.intro rfl trivial)))))) fun h24 => ?_
  exact zG_ret (r := none) rfl (zrd_v rfl (by decide +kernel))
set_option maxRecDepth 20000 in
theorem k_Mod_readGate_j68 {l : Launch} {X : zX} (hl : l.stackTraces = false) {h : zH} {v1 : Int32} {v2 : Int32} : zGl l m_Mod_readGate X 0 0 (f_Mod_readGate_j68 h v1 v2) (68, [some (zr (some (11, 333))), some (zi v1), some (zi v2), none, none], [], h) (fun x => .inr ((fun a => (.inl none, a) : zH → zF) x)) := by
  unfold f_Mod_readGate_j68
  refine zG_run t_Mod [(.aload_n 0, 0, 0), (.getfield 216, 11, 24)] (72, [some (zr (some (11, 333))), some (zi v1), some (zi v2), none, none], [zi (h.1 333 24)], h) (by decide +kernel) rfl ?_
  refine zG_if (op := .eq) (off := 4) (tgt := 76) (by decide +kernel) rfl Iff.rfl (fun c26 => ?_) (fun c26 => ?_)
  · refine zG_run t_Mod [(.aload_n 0, 0, 0)] (77, [some (zr (some (11, 333))), some (zi v1), some (zi v2), none, none], [zr (some (11, 333))], h) (by decide +kernel) rfl ?_
    refine zG_callV (idx := 241) (R := (fun a => (none, a))) (as := []) (rest := []) (n := 0) (fun a ha => c_Mod_stepOn hl ha) (by decide +kernel) ⟨ok_Mod_stepOn, by decide, by decide +kernel⟩ rfl w_388 w_389 w_390 (by decide) rfl rfl rfl (Nat.le_of_ble_eq_true rfl) fun x6 => ?_
    refine zG_run t_Mod [(.iload_n 2, 0, 0)] (81, [some (zr (some (11, 333))), some (zi v1), some (zi v2), none, none], [zi v2], x6) (by decide +kernel) rfl ?_
    refine zG_if (op := .ne) (off := 7) (tgt := 88) (by decide +kernel) rfl Iff.rfl (fun c25 => ?_) (fun c25 => ?_)
    · refine zG_run t_Mod [(.iconst 3, 0, 0)] (89, [some (zr (some (11, 333))), some (zi v1), some (zi v2), none, none], [zi 3], x6) (by decide +kernel) rfl ?_
      exact zG_forget (L' := [some (zr (some (11, 333))), some (zi v1), some (zi v2), none, none]) (And.intro rfl (And.intro rfl (And.intro rfl trivial))) (k_Mod_readGate_j89 hl)
    · refine zG_run t_Mod [(.iconst 1, 0, 0), (.goto 4, 0, 0)] (89, [some (zr (some (11, 333))), some (zi v1), some (zi v2), none, none], [zi 1], x6) (by decide +kernel) rfl ?_
      exact zG_forget (L' := [some (zr (some (11, 333))), some (zi v1), some (zi v2), none, none]) (And.intro rfl (And.intro rfl (And.intro rfl trivial))) (k_Mod_readGate_j89 hl)
  · exact zG_ret (r := none) rfl (zrd_v rfl (by decide +kernel))
set_option maxRecDepth 20000 in
theorem k_Mod_readGate_j24 {l : Launch} {X : zX} (hl : l.stackTraces = false) {h : zH} : zGl l m_Mod_readGate X 0 0 (f_Mod_readGate_j24 h) (24, [some (zr (some (11, 333))), none, none, none, none], [], h) (fun x => .inr ((fun a => (.inl none, a) : zH → zF) x)) := by
  unfold f_Mod_readGate_j24
  refine zG_run t_Mod [(.bipush 22, 0, 0), (.aload_n 0, 0, 0)] (27, [some (zr (some (11, 333))), none, none, none, none], [zr (some (11, 333)), zi 22], h) (by decide +kernel) rfl ?_
  refine zG_callV (idx := 248) (R := (fun a => (some (zi a), h))) (as := []) (rest := [zi 22]) (n := 0) (fun a ha => c_Mod_newLines hl ha) (by decide +kernel) ⟨ok_Mod_newLines, by decide, by decide +kernel⟩ rfl w_405 w_406 w_407 (by decide) rfl rfl rfl (Nat.le_of_ble_eq_true rfl) fun x2 => ?_
  refine zG_run t_Mod [(.iadd, 0, 0), (.istore_n 1, 0, 0), (.aload_n 0, 0, 0)] (33, [some (zr (some (11, 333))), some (zi (22 + x2)), none, none, none], [zr (some (11, 333))], h) (by decide +kernel) rfl ?_
  refine zG_callV (idx := 261) (R := (fun a => (none, a))) (as := []) (rest := []) (n := 0) (fun a ha => c_Mod_takeName hl ha) (by decide +kernel) ⟨ok_Mod_takeName, by decide, by decide +kernel⟩ rfl w_411 w_412 w_413 (by decide) rfl rfl rfl (Nat.le_of_ble_eq_true rfl) fun x3 => ?_
  refine zG_run t_Mod [(.aload_n 0, 0, 0), (.bipush 61, 0, 0)] (39, [some (zr (some (11, 333))), some (zi (22 + x2)), none, none, none], [zi 61, zr (some (11, 333))], x3) (by decide +kernel) rfl ?_
  refine zG_callV (idx := 264) (R := (fun a => (none, a))) (as := [zi 61]) (rest := []) (n := 1) (fun a ha => c_Mod_mark hl ha) (by decide +kernel) ⟨ok_Mod_mark, by decide, by decide +kernel⟩ rfl w_417 w_418 w_419 (by decide) rfl rfl rfl (Nat.le_of_ble_eq_true rfl) fun x4 => ?_
  refine zG_run t_Mod [(.aload_n 0, 0, 0), (.aload_n 0, 0, 0), (.getfield 21, 11, 0)] (47, [some (zr (some (11, 333))), some (zi (22 + x2)), none, none, none], [zr (some (60, 334)), zr (some (11, 333))], x4) (by decide +kernel) rfl ?_
  refine zG_callV (idx := 244) (R := (fun a => (some (zi a), x4))) (as := [zr (some (60, 334))]) (rest := []) (n := 1) (fun a ha => c_Mod_which_60 hl ha) (by decide +kernel) ⟨ok_Mod_which_60, by decide, by decide +kernel⟩ rfl w_399 w_400 w_401 (by decide) rfl rfl rfl (Nat.le_of_ble_eq_true rfl) fun x5 => ?_
  refine zG_run t_Mod [(.istore_n 2, 0, 0), (.aload_n 0, 0, 0), (.getfield 216, 11, 24)] (55, [some (zr (some (11, 333))), some (zi (22 + x2)), some (zi x5), none, none], [zi (x4.1 333 24)], x4) (by decide +kernel) rfl ?_
  refine zG_if (op := .ne) (off := 13) (tgt := 68) (by decide +kernel) rfl Iff.rfl (fun c29 => ?_) (fun c29 => ?_)
  · exact zG_forget (L' := [some (zr (some (11, 333))), some (zi (22 + x2)), some (zi x5), none, none]) (And.intro rfl (And.intro rfl (And.intro rfl trivial))) (k_Mod_readGate_j68 hl)
  · refine zG_run t_Mod [(.iload_n 2, 0, 0), (.iconst (-1), 0, 0)] (60, [some (zr (some (11, 333))), some (zi (22 + x2)), some (zi x5), none, none], [zi (-1), zi x5], x4) (by decide +kernel) rfl ?_
    refine zG_icmp (op := .ne) (off := 8) (tgt := 68) (by decide +kernel) rfl Iff.rfl (fun c28 => ?_) (fun c28 => ?_)
    · exact zG_forget (L' := [some (zr (some (11, 333))), some (zi (22 + x2)), some (zi x5), none, none]) (And.intro rfl (And.intro rfl (And.intro rfl trivial))) (k_Mod_readGate_j68 hl)
    · refine zG_run t_Mod [(.aload_n 0, 0, 0), (.iconst 1, 0, 0)] (65, [some (zr (some (11, 333))), some (zi (22 + x2)), some (zi x5), none, none], [zi 1, zr (some (11, 333))], x4) (by decide +kernel) rfl ?_
      refine zG_callV (idx := 237) (R := (fun a => (none, a))) (as := [zi 1]) (rest := []) (n := 1) (fun a ha => c_Mod_wrong hl ha) (by decide +kernel) ⟨ok_Mod_wrong, by decide, by decide +kernel⟩ rfl w_396 w_397 w_398 (by decide) rfl rfl rfl (Nat.le_of_ble_eq_true rfl) fun x27 => ?_
      exact zG_forget (L' := [some (zr (some (11, 333))), some (zi (22 + x2)), some (zi x5), none, none]) (And.intro rfl (And.intro rfl (And.intro rfl trivial))) (k_Mod_readGate_j68 hl)
set_option maxRecDepth 20000 in
theorem k_Mod_readGate {l : Launch} {X : zX} (hl : l.stackTraces = false) {h : zH} : zGl l m_Mod_readGate X 0 0 (f_Mod_readGate h) (0, [some (zr (some (11, 333))), none, none, none, none], [], h) (fun x => .inr ((fun a => (.inl none, a) : zH → zF) x)) := by
  unfold f_Mod_readGate
  refine zG_run t_Mod [(.aload_n 0, 0, 0)] (1, [some (zr (some (11, 333))), none, none, none, none], [zr (some (11, 333))], h) (by decide +kernel) rfl ?_
  refine zG_callV (idx := 254) (R := (fun a => (some (zi a.1), a.2))) (as := []) (rest := []) (n := 0) (fun a ha => c_Mod_wordHere hl ha) (by decide +kernel) ⟨ok_Mod_wordHere, by decide, by decide +kernel⟩ rfl w_402 w_403 w_404 (by decide) rfl rfl rfl (Nat.le_of_ble_eq_true rfl) fun x1 => ?_
  refine zG_if (op := .eq) (off := 20) (tgt := 24) (by decide +kernel) rfl Iff.rfl (fun c32 => ?_) (fun c32 => ?_)
  · exact zG_forget (L' := [some (zr (some (11, 333))), none, none, none, none]) (And.intro rfl trivial) (k_Mod_readGate_j24 hl)
  · refine zG_run t_Mod [(.aload_n 0, 0, 0), (.getfield 40, 11, 3), (.bipush 6, 0, 0)] (13, [some (zr (some (11, 333))), none, none, none, none], [zi 6, zr (some (62, 336))], x1.2) (by decide +kernel) rfl ?_
    refine zG_aldc (v := zi (x1.2.1 336 6)) rfl (by decide +kernel) (by decide +kernel) rfl ?_
    refine zG_run t_Mod [(.bipush 16, 0, 0)] (16, [some (zr (some (11, 333))), none, none, none, none], [zi 16, zi (x1.2.1 336 6)], x1.2) (by decide +kernel) rfl ?_
    refine zG_icmp (op := .ne) (off := 8) (tgt := 24) (by decide +kernel) rfl Iff.rfl (fun c31 => ?_) (fun c31 => ?_)
    · exact zG_forget (L' := [some (zr (some (11, 333))), none, none, none, none]) (And.intro rfl trivial) (k_Mod_readGate_j24 hl)
    · refine zG_run t_Mod [(.aload_n 0, 0, 0), (.iconst 2, 0, 0)] (21, [some (zr (some (11, 333))), none, none, none, none], [zi 2, zr (some (11, 333))], x1.2) (by decide +kernel) rfl ?_
      refine zG_callV (idx := 237) (R := (fun a => (none, a))) (as := [zi 2]) (rest := []) (n := 1) (fun a ha => c_Mod_wrong hl ha) (by decide +kernel) ⟨ok_Mod_wrong, by decide, by decide +kernel⟩ rfl w_396 w_397 w_398 (by decide) rfl rfl rfl (Nat.le_of_ble_eq_true rfl) fun x30 => ?_
      exact zG_forget (L' := [some (zr (some (11, 333))), none, none, none, none]) (And.intro rfl trivial) (k_Mod_readGate_j24 hl)
theorem c_Mod_readGate {l : Launch} {X : zX} (hl : l.stackTraces = false) {h : zH} {x : zH} (hx : f_Mod_readGate h = some x) : zCt l (true, 2) 2 m_Mod_readGate X 0 0 [zr (some (11, 333))] h ((fun a => (.inl none, a) : zH → zF) x) :=
  zG_ct (R := fun a => (.inl none, a)) (x := x) ok_Mod_readGate hl (Nat.le_of_ble_eq_true rfl) hx (k_Mod_readGate hl)
def m_Mod_readFill : zM := (({ cls := "ScanPackerModel", name := "readFill", desc := "()V" } : Jvm.MethodName), prog_13_method_28_code, 1, (Option.none : Option Jvm.ClassFile.FieldType), [], 3)
theorem ok_Mod_readFill : zMok m_Mod_readFill := ⟨by decide +kernel, zW_of 1768 (by decide +kernel) (by decide +kernel), zW_of 134 (by decide +kernel) (by decide +kernel), by decide, by decide +kernel, by decide +kernel⟩
set_option maxRecDepth 20000 in
theorem k_Mod_readFill_j70 {l : Launch} {X : zX} (hl : l.stackTraces = false) {h : zH} : zGl l m_Mod_readFill X 0 0 (f_Mod_readFill_j70 h) (70, [some (zr (some (11, 333)))], [], h) (fun x => .inr ((fun a => (.inl none, a) : zH → zF) x)) := by
  unfold f_Mod_readFill_j70
  refine zG_run t_Mod [(.aload_n 0, 0, 0), (.getfield 216, 11, 24)] (74, [some (zr (some (11, 333)))], [zi (h.1 333 24)], h) (by decide +kernel) rfl ?_
  refine zG_if (op := .eq) (off := 4) (tgt := 78) (by decide +kernel) rfl Iff.rfl (fun c6 => ?_) (fun c6 => ?_)
  · refine zG_run t_Mod [(.aload_n 0, 0, 0), (.getfield 40, 11, 3), (.bipush 8, 0, 0), (.aload_n 0, 0, 0), (.getfield 210, 11, 21)] (88, [some (zr (some (11, 333)))], [zi (h.1 333 21), zi 8, zr (some (62, 336))], h) (by decide +kernel) rfl ?_
    refine zG_bind (fun y => (89, [some (zr (some (11, 333)))], [], y)) (zG_astc (h' := zsI h 336 8 (h.1 333 21)) rfl (by decide +kernel) (by decide +kernel) rfl (zG_end (L' := [some (zr (some (11, 333)))]) rfl (And.intro rfl trivial))) fun h3 => ?_
    refine zG_run t_Mod [(.aload_n 0, 0, 0), (.getfield 40, 11, 3), (.bipush 9, 0, 0), (.iconst 1, 0, 0)] (96, [some (zr (some (11, 333)))], [zi 1, zi 9, zr (some (62, 336))], h3) (by decide +kernel) rfl ?_
    refine zG_bind (fun y => (97, [some (zr (some (11, 333)))], [], y)) (zG_astc (h' := zsI h3 336 9 1) rfl (by decide +kernel) (by decide +kernel) rfl (zG_end (L' := [some (zr (some (11, 333)))]) rfl (And.intro rfl trivial))) fun h4 => ?_
    refine zG_run t_Mod [(.aload_n 0, 0, 0)] (98, [some (zr (some (11, 333)))], [zr (some (11, 333))], h4) (by decide +kernel) rfl ?_
    refine zG_callV (idx := 241) (R := (fun a => (none, a))) (as := []) (rest := []) (n := 0) (fun a ha => c_Mod_stepOn hl ha) (by decide +kernel) ⟨ok_Mod_stepOn, by decide, by decide +kernel⟩ rfl w_388 w_389 w_390 (by decide) rfl rfl rfl (Nat.le_of_ble_eq_true rfl) fun x5 => ?_
    exact zG_ret (r := none) rfl (zrd_v rfl (by decide +kernel))
  · exact zG_ret (r := none) rfl (zrd_v rfl (by decide +kernel))
set_option maxRecDepth 20000 in
theorem k_Mod_readFill_j65 {l : Launch} {X : zX} (hl : l.stackTraces = false) {h : zH} : zGl l m_Mod_readFill X 0 0 (f_Mod_readFill_j65 h) (65, [some (zr (some (11, 333)))], [], h) (fun x => .inr ((fun a => (.inl none, a) : zH → zF) x)) := by
  unfold f_Mod_readFill_j65
  refine zG_run t_Mod [(.aload_n 0, 0, 0), (.iconst 2, 0, 0)] (67, [some (zr (some (11, 333)))], [zi 2, zr (some (11, 333))], h) (by decide +kernel) rfl ?_
  refine zG_callV (idx := 237) (R := (fun a => (none, a))) (as := [zi 2]) (rest := []) (n := 1) (fun a ha => c_Mod_wrong hl ha) (by decide +kernel) ⟨ok_Mod_wrong, by decide, by decide +kernel⟩ rfl w_396 w_397 w_398 (by decide) rfl rfl rfl (Nat.le_of_ble_eq_true rfl) fun x2 => ?_
  exact zG_forget (L' := [some (zr (some (11, 333)))]) (And.intro rfl trivial) (k_Mod_readFill_j70 hl)
set_option maxRecDepth 20000 in
theorem k_Mod_readFill_j16 {l : Launch} {X : zX} (hl : l.stackTraces = false) {h : zH} : zGl l m_Mod_readFill X 0 0 (f_Mod_readFill_j16 h) (16, [some (zr (some (11, 333)))], [], h) (fun x => .inr ((fun a => (.inl none, a) : zH → zF) x)) := by
  unfold f_Mod_readFill_j16
  refine zG_run t_Mod [(.aload_n 0, 0, 0), (.getfield 216, 11, 24)] (20, [some (zr (some (11, 333)))], [zi (h.1 333 24)], h) (by decide +kernel) rfl ?_
  refine zG_if (op := .eq) (off := 4) (tgt := 24) (by decide +kernel) rfl Iff.rfl (fun c11 => ?_) (fun c11 => ?_)
  · refine zG_run t_Mod [(.aload_n 0, 0, 0)] (25, [some (zr (some (11, 333)))], [zr (some (11, 333))], h) (by decide +kernel) rfl ?_
    refine zG_callV (idx := 241) (R := (fun a => (none, a))) (as := []) (rest := []) (n := 0) (fun a ha => c_Mod_stepOn hl ha) (by decide +kernel) ⟨ok_Mod_stepOn, by decide, by decide +kernel⟩ rfl w_388 w_389 w_390 (by decide) rfl rfl rfl (Nat.le_of_ble_eq_true rfl) fun x1 => ?_
    refine zG_run t_Mod [(.aload_n 0, 0, 0), (.getfield 200, 11, 20), (.iconst 2, 0, 0)] (33, [some (zr (some (11, 333)))], [zi 2, zi (x1.1 333 20)], x1) (by decide +kernel) rfl ?_
    refine zG_icmp (op := .eq) (off := 11) (tgt := 44) (by decide +kernel) rfl Iff.rfl (fun c10 => ?_) (fun c10 => ?_)
    · refine zG_run t_Mod [(.aload_n 0, 0, 0), (.getfield 213, 11, 23), (.aload_n 0, 0, 0), (.getfield 197, 11, 22), (.isub, 0, 0), (.iconst 1, 0, 0)] (54, [some (zr (some (11, 333)))], [zi 1, zi ((x1.1 333 23) - (x1.1 333 22))], x1) (by decide +kernel) rfl ?_
      refine zG_icmp (op := .gt) (off := 11) (tgt := 65) (by decide +kernel) rfl Iff.rfl (fun c8 => ?_) (fun c8 => ?_)
      · exact zG_forget (L' := [some (zr (some (11, 333)))]) (And.intro rfl trivial) (k_Mod_readFill_j65 hl)
      · refine zG_run t_Mod [(.aload_n 0, 0, 0), (.getfield 210, 11, 21), (.iconst 2, 0, 0)] (62, [some (zr (some (11, 333)))], [zi 2, zi (x1.1 333 21)], x1) (by decide +kernel) rfl ?_
        refine zG_icmp (op := .le) (off := 8) (tgt := 70) (by decide +kernel) rfl Iff.rfl (fun c7 => ?_) (fun c7 => ?_)
        · exact zG_forget (L' := [some (zr (some (11, 333)))]) (And.intro rfl trivial) (k_Mod_readFill_j70 hl)
        · exact zG_forget (L' := [some (zr (some (11, 333)))]) (And.intro rfl trivial) (k_Mod_readFill_j65 hl)
    · refine zG_run t_Mod [(.aload_n 0, 0, 0), (.iconst 1, 0, 0)] (38, [some (zr (some (11, 333)))], [zi 1, zr (some (11, 333))], x1) (by decide +kernel) rfl ?_
      refine zG_callV (idx := 237) (R := (fun a => (none, a))) (as := [zi 1]) (rest := []) (n := 1) (fun a ha => c_Mod_wrong hl ha) (by decide +kernel) ⟨ok_Mod_wrong, by decide, by decide +kernel⟩ rfl w_396 w_397 w_398 (by decide) rfl rfl rfl (Nat.le_of_ble_eq_true rfl) fun x9 => ?_
      refine zG_run t_Mod [(.goto 29, 0, 0)] (70, [some (zr (some (11, 333)))], [], x9) (by decide +kernel) rfl ?_
      exact zG_forget (L' := [some (zr (some (11, 333)))]) (And.intro rfl trivial) (k_Mod_readFill_j70 hl)
  · exact zG_ret (r := none) rfl (zrd_v rfl (by decide +kernel))
set_option maxRecDepth 20000 in
theorem k_Mod_readFill {l : Launch} {X : zX} (hl : l.stackTraces = false) {h : zH} : zGl l m_Mod_readFill X 0 0 (f_Mod_readFill h) (0, [some (zr (some (11, 333)))], [], h) (fun x => .inr ((fun a => (.inl none, a) : zH → zF) x)) := by
  unfold f_Mod_readFill
  refine zG_run t_Mod [(.aload_n 0, 0, 0), (.getfield 40, 11, 3), (.bipush 9, 0, 0)] (6, [some (zr (some (11, 333)))], [zi 9, zr (some (62, 336))], h) (by decide +kernel) rfl ?_
  refine zG_aldc (v := zi (h.1 336 9)) rfl (by decide +kernel) (by decide +kernel) rfl ?_
  refine zG_run t_Mod [(.iconst 1, 0, 0)] (8, [some (zr (some (11, 333)))], [zi 1, zi (h.1 336 9)], h) (by decide +kernel) rfl ?_
  refine zG_icmp (op := .ne) (off := 8) (tgt := 16) (by decide +kernel) rfl Iff.rfl (fun c13 => ?_) (fun c13 => ?_)
  · exact zG_forget (L' := [some (zr (some (11, 333)))]) (And.intro rfl trivial) (k_Mod_readFill_j16 hl)
  · refine zG_run t_Mod [(.aload_n 0, 0, 0), (.iconst 5, 0, 0)] (13, [some (zr (some (11, 333)))], [zi 5, zr (some (11, 333))], h) (by decide +kernel) rfl ?_
    refine zG_callV (idx := 237) (R := (fun a => (none, a))) (as := [zi 5]) (rest := []) (n := 1) (fun a ha => c_Mod_wrong hl ha) (by decide +kernel) ⟨ok_Mod_wrong, by decide, by decide +kernel⟩ rfl w_396 w_397 w_398 (by decide) rfl rfl rfl (Nat.le_of_ble_eq_true rfl) fun x12 => ?_
    exact zG_forget (L' := [some (zr (some (11, 333)))]) (And.intro rfl trivial) (k_Mod_readFill_j16 hl)
theorem c_Mod_readFill {l : Launch} {X : zX} (hl : l.stackTraces = false) {h : zH} {x : zH} (hx : f_Mod_readFill h = some x) : zCt l (true, 2) 2 m_Mod_readFill X 0 0 [zr (some (11, 333))] h ((fun a => (.inl none, a) : zH → zF) x) :=
  zG_ct (R := fun a => (.inl none, a)) (x := x) ok_Mod_readFill hl (Nat.le_of_ble_eq_true rfl) hx (k_Mod_readFill hl)
def m_Mod_inputNow : zM := (({ cls := "ScanPackerModel", name := "inputNow", desc := "()I" } : Jvm.MethodName), prog_13_method_22_code, 2, (Option.some Jvm.ClassFile.FieldType.int), [], 10)
theorem ok_Mod_inputNow : zMok m_Mod_inputNow := ⟨by decide +kernel, zW_of 1760 (by decide +kernel) (by decide +kernel), zW_of 134 (by decide +kernel) (by decide +kernel), by decide, by decide +kernel, by decide +kernel⟩
set_option maxRecDepth 20000 in
theorem k_Mod_inputNow_j27 {l : Launch} {X : zX} (hl : l.stackTraces = false) {h : zH} {v1 : Int32} : zGl l m_Mod_inputNow X 0 0 (f_Mod_inputNow_j27 h v1) (27, [some (zr (some (11, 333))), some (zi v1)], [], h) (fun x => .inr ((fun a => (.inl (some (zi a.1)), a.2) : Int32 × zH → zF) x)) := by
  unfold f_Mod_inputNow_j27
  refine zG_run t_Mod [(.aload_n 0, 0, 0), (.getfield 216, 11, 24)] (31, [some (zr (some (11, 333))), some (zi v1)], [zi (h.1 333 24)], h) (by decide +kernel) rfl ?_
  refine zG_if (op := .ne) (off := 7) (tgt := 38) (by decide +kernel) rfl Iff.rfl (fun c2 => ?_) (fun c2 => ?_)
  · refine zG_run t_Mod [(.iconst 0, 0, 0)] (39, [some (zr (some (11, 333))), some (zi v1)], [zi 0], h) (by decide +kernel) rfl ?_
    exact zG_ret (r := some (zi 0)) rfl (zrd_i rfl (by decide +kernel))
  · refine zG_run t_Mod [(.iload_n 1, 0, 0), (.goto 4, 0, 0)] (39, [some (zr (some (11, 333))), some (zi v1)], [zi v1], h) (by decide +kernel) rfl ?_
    exact zG_ret (r := some (zi v1)) rfl (zrd_i rfl (by decide +kernel))
set_option maxRecDepth 20000 in
theorem k_Mod_inputNow {l : Launch} {X : zX} (hl : l.stackTraces = false) {h : zH} : zGl l m_Mod_inputNow X 0 0 (f_Mod_inputNow h) (0, [some (zr (some (11, 333))), none], [], h) (fun x => .inr ((fun a => (.inl (some (zi a.1)), a.2) : Int32 × zH → zF) x)) := by
  unfold f_Mod_inputNow
  refine zG_run t_Mod [(.aload_n 0, 0, 0)] (1, [some (zr (some (11, 333))), none], [zr (some (11, 333))], h) (by decide +kernel) rfl ?_
  refine zG_callV (idx := 258) (R := (fun a => (some (zi a.1), a.2))) (as := []) (rest := []) (n := 0) (fun a ha => c_Mod_lineNow hl ha) (by decide +kernel) ⟨ok_Mod_lineNow, by decide, by decide +kernel⟩ rfl w_420 w_421 w_422 (by decide) rfl rfl rfl (Nat.le_of_ble_eq_true rfl) fun x1 => ?_
  refine zG_run t_Mod [(.istore_n 1, 0, 0), (.aload_n 0, 0, 0), (.getfield 216, 11, 24)] (9, [some (zr (some (11, 333))), some (zi x1.1)], [zi (x1.2.1 333 24)], x1.2) (by decide +kernel) rfl ?_
  refine zG_if (op := .ne) (off := 18) (tgt := 27) (by decide +kernel) rfl Iff.rfl (fun c5 => ?_) (fun c5 => ?_)
  · exact zG_forget (L' := [some (zr (some (11, 333))), some (zi x1.1)]) (And.intro rfl (And.intro rfl trivial)) (k_Mod_inputNow_j27 hl)
  · refine zG_run t_Mod [(.iload_n 1, 0, 0), (.aload_n 0, 0, 0), (.getfield 40, 11, 3), (.iconst 5, 0, 0)] (18, [some (zr (some (11, 333))), some (zi x1.1)], [zi 5, zr (some (62, 336)), zi x1.1], x1.2) (by decide +kernel) rfl ?_
    refine zG_aldc (v := zi (x1.2.1 336 5)) rfl (by decide +kernel) (by decide +kernel) rfl ?_
    refine zG_icmp (op := .lt) (off := 8) (tgt := 27) (by decide +kernel) rfl Iff.rfl (fun c4 => ?_) (fun c4 => ?_)
    · exact zG_forget (L' := [some (zr (some (11, 333))), some (zi x1.1)]) (And.intro rfl (And.intro rfl trivial)) (k_Mod_inputNow_j27 hl)
    · refine zG_run t_Mod [(.aload_n 0, 0, 0), (.iconst 3, 0, 0)] (24, [some (zr (some (11, 333))), some (zi x1.1)], [zi 3, zr (some (11, 333))], x1.2) (by decide +kernel) rfl ?_
      refine zG_callV (idx := 237) (R := (fun a => (none, a))) (as := [zi 3]) (rest := []) (n := 1) (fun a ha => c_Mod_wrong hl ha) (by decide +kernel) ⟨ok_Mod_wrong, by decide, by decide +kernel⟩ rfl w_396 w_397 w_398 (by decide) rfl rfl rfl (Nat.le_of_ble_eq_true rfl) fun x3 => ?_
      exact zG_forget (L' := [some (zr (some (11, 333))), some (zi x1.1)]) (And.intro rfl (And.intro rfl trivial)) (k_Mod_inputNow_j27 hl)
theorem c_Mod_inputNow {l : Launch} {X : zX} (hl : l.stackTraces = false) {h : zH} {x : Int32 × zH} (hx : f_Mod_inputNow h = some x) : zCt l (true, 2) 2 m_Mod_inputNow X 0 0 [zr (some (11, 333))] h ((fun a => (.inl (some (zi a.1)), a.2) : Int32 × zH → zF) x) :=
  zG_ct (R := fun a => (.inl (some (zi a.1)), a.2)) (x := x) ok_Mod_inputNow hl (Nat.le_of_ble_eq_true rfl) hx (k_Mod_inputNow hl)
def m_Mod_readTake : zM := (({ cls := "ScanPackerModel", name := "readTake", desc := "()V" } : Jvm.MethodName), prog_13_method_27_code, 3, (Option.none : Option Jvm.ClassFile.FieldType), [], 11)
theorem ok_Mod_readTake : zMok m_Mod_readTake := ⟨by decide +kernel, zW_of 1764 (by decide +kernel) (by decide +kernel), zW_of 134 (by decide +kernel) (by decide +kernel), by decide, by decide +kernel, by decide +kernel⟩
set_option maxRecDepth 20000 in
theorem k_Mod_readTake_j59 {l : Launch} {X : zX} (hl : l.stackTraces = false) {h : zH} {v1 : Int32} : zGl l m_Mod_readTake X 0 0 (f_Mod_readTake_j59 h v1) (59, [some (zr (some (11, 333))), some (zi v1), none], [], h) (fun x => .inr ((fun a => (.inl none, a) : zH → zF) x)) := by
  unfold f_Mod_readTake_j59
  refine zG_run t_Mod [(.aload_n 0, 0, 0), (.getfield 216, 11, 24)] (63, [some (zr (some (11, 333))), some (zi v1), none], [zi (h.1 333 24)], h) (by decide +kernel) rfl ?_
  refine zG_if (op := .eq) (off := 4) (tgt := 67) (by decide +kernel) rfl Iff.rfl (fun c12 => ?_) (fun c12 => ?_)
  · refine zG_run t_Mod [(.aload_n 0, 0, 0)] (68, [some (zr (some (11, 333))), some (zi v1), none], [zr (some (11, 333))], h) (by decide +kernel) rfl ?_
    refine zG_callV (idx := 241) (R := (fun a => (none, a))) (as := []) (rest := []) (n := 0) (fun a ha => c_Mod_stepOn hl ha) (by decide +kernel) ⟨ok_Mod_stepOn, by decide, by decide +kernel⟩ rfl w_388 w_389 w_390 (by decide) rfl rfl rfl (Nat.le_of_ble_eq_true rfl) fun x3 => ?_
    refine zG_run t_Mod [(.aload_n 0, 0, 0)] (72, [some (zr (some (11, 333))), some (zi v1), none], [zr (some (11, 333))], x3) (by decide +kernel) rfl ?_
    refine zG_callV (idx := 258) (R := (fun a => (some (zi a.1), a.2))) (as := []) (rest := []) (n := 0) (fun a ha => c_Mod_lineNow hl ha) (by decide +kernel) ⟨ok_Mod_lineNow, by decide, by decide +kernel⟩ rfl w_420 w_421 w_422 (by decide) rfl rfl rfl (Nat.le_of_ble_eq_true rfl) fun x4 => ?_
    refine zG_run t_Mod [(.istore_n 2, 0, 0), (.aload_n 0, 0, 0), (.getfield 216, 11, 24)] (80, [some (zr (some (11, 333))), some (zi v1), some (zi x4.1)], [zi (x4.2.1 333 24)], x4.2) (by decide +kernel) rfl ?_
    refine zG_if (op := .eq) (off := 4) (tgt := 84) (by decide +kernel) rfl Iff.rfl (fun c11 => ?_) (fun c11 => ?_)
    · refine zG_run t_Mod [(.aload_n 0, 0, 0), (.getfield 59, 11, 9), (.bipush 6, 0, 0), (.iload_n 1, 0, 0), (.iadd, 0, 0), (.iload_n 2, 0, 0)] (93, [some (zr (some (11, 333))), some (zi v1), some (zi x4.1)], [zi x4.1, zi (6 + v1), zr (some (68, 342))], x4.2) (by decide +kernel) rfl ?_
      refine zG_guard fun hb6 => ?_
      refine zG_bind (fun y => (94, [some (zr (some (11, 333))), some (zi v1), some (zi x4.1)], [], y)) (zG_astc (h' := zsI x4.2 342 (6 + v1).toNatClampNeg x4.1) rfl (by decide +kernel) hb6 rfl (zG_end (L' := [some (zr (some (11, 333))), some (zi v1), some (zi x4.1)]) rfl (And.intro rfl (And.intro rfl (And.intro rfl trivial))))) fun h5 => ?_
      refine zG_run t_Mod [(.aload_n 0, 0, 0), (.getfield 53, 11, 7), (.bipush 22, 0, 0), (.iload_n 2, 0, 0), (.iadd, 0, 0), (.dup2, 0, 0)] (103, [some (zr (some (11, 333))), some (zi v1), some (zi x4.1)], [zi (22 + x4.1), zr (some (66, 340)), zi (22 + x4.1), zr (some (66, 340))], h5) (by decide +kernel) rfl ?_
      refine zG_ald (v := zi (h5.1 340 (22 + x4.1).toNatClampNeg)) (n := 44) rfl (by decide +kernel) rfl rfl fun hb7 => ?_
      refine zG_run t_Mod [(.iconst 2, 0, 0), (.ior, 0, 0)] (106, [some (zr (some (11, 333))), some (zi v1), some (zi x4.1)], [zi ((h5.1 340 (22 + x4.1).toNatClampNeg) ||| 2), zi (22 + x4.1), zr (some (66, 340))], h5) (by decide +kernel) rfl ?_
      refine zG_guard fun hb9 => ?_
      refine zG_bind (fun y => (107, [some (zr (some (11, 333))), some (zi v1), some (zi x4.1)], [], y)) (zG_astc (h' := zsI h5 340 (22 + x4.1).toNatClampNeg ((h5.1 340 (22 + x4.1).toNatClampNeg) ||| 2)) rfl (by decide +kernel) hb9 rfl (zG_end (L' := [some (zr (some (11, 333))), some (zi v1), some (zi x4.1)]) rfl (And.intro rfl (And.intro rfl (And.intro rfl trivial))))) fun h8 => ?_
      refine zG_run t_Mod [(.aload_n 0, 0, 0)] (108, [some (zr (some (11, 333))), some (zi v1), some (zi x4.1)], [zr (some (11, 333))], h8) (by decide +kernel) rfl ?_
      refine zG_callV (idx := 241) (R := (fun a => (none, a))) (as := []) (rest := []) (n := 0) (fun a ha => c_Mod_stepOn hl ha) (by decide +kernel) ⟨ok_Mod_stepOn, by decide, by decide +kernel⟩ rfl w_388 w_389 w_390 (by decide) rfl rfl rfl (Nat.le_of_ble_eq_true rfl) fun x10 => ?_
      exact zG_ret (r := none) rfl (zrd_v rfl (by decide +kernel))
    · exact zG_ret (r := none) rfl (zrd_v rfl (by decide +kernel))
  · exact zG_ret (r := none) rfl (zrd_v rfl (by decide +kernel))
set_option maxRecDepth 20000 in
theorem k_Mod_readTake_j34 {l : Launch} {X : zX} (hl : l.stackTraces = false) {h : zH} {v1 : Int32} : zGl l m_Mod_readTake X 0 0 (f_Mod_readTake_j34 h v1) (34, [some (zr (some (11, 333))), some (zi v1), none], [], h) (fun x => .inr ((fun a => (.inl none, a) : zH → zF) x)) := by
  unfold f_Mod_readTake_j34
  refine zG_run t_Mod [(.aload_n 0, 0, 0), (.getfield 216, 11, 24)] (38, [some (zr (some (11, 333))), some (zi v1), none], [zi (h.1 333 24)], h) (by decide +kernel) rfl ?_
  refine zG_if (op := .ne) (off := 21) (tgt := 59) (by decide +kernel) rfl Iff.rfl (fun c16 => ?_) (fun c16 => ?_)
  · exact zG_forget (L' := [some (zr (some (11, 333))), some (zi v1), none]) (And.intro rfl (And.intro rfl trivial)) (k_Mod_readTake_j59 hl)
  · refine zG_run t_Mod [(.aload_n 0, 0, 0), (.getfield 59, 11, 9), (.bipush 6, 0, 0), (.iload_n 1, 0, 0), (.iadd, 0, 0)] (49, [some (zr (some (11, 333))), some (zi v1), none], [zi (6 + v1), zr (some (68, 342))], h) (by decide +kernel) rfl ?_
    refine zG_ald (v := zi (h.1 342 (6 + v1).toNatClampNeg)) (n := 12) rfl (by decide +kernel) rfl rfl fun hb13 => ?_
    refine zG_run t_Mod [(.iconst (-1), 0, 0)] (51, [some (zr (some (11, 333))), some (zi v1), none], [zi (-1), zi (h.1 342 (6 + v1).toNatClampNeg)], h) (by decide +kernel) rfl ?_
    refine zG_icmp (op := .eq) (off := 8) (tgt := 59) (by decide +kernel) rfl Iff.rfl (fun c15 => ?_) (fun c15 => ?_)
    · exact zG_forget (L' := [some (zr (some (11, 333))), some (zi v1), none]) (And.intro rfl (And.intro rfl trivial)) (k_Mod_readTake_j59 hl)
    · refine zG_run t_Mod [(.aload_n 0, 0, 0), (.iconst 5, 0, 0)] (56, [some (zr (some (11, 333))), some (zi v1), none], [zi 5, zr (some (11, 333))], h) (by decide +kernel) rfl ?_
      refine zG_callV (idx := 237) (R := (fun a => (none, a))) (as := [zi 5]) (rest := []) (n := 1) (fun a ha => c_Mod_wrong hl ha) (by decide +kernel) ⟨ok_Mod_wrong, by decide, by decide +kernel⟩ rfl w_396 w_397 w_398 (by decide) rfl rfl rfl (Nat.le_of_ble_eq_true rfl) fun x14 => ?_
      exact zG_forget (L' := [some (zr (some (11, 333))), some (zi v1), none]) (And.intro rfl (And.intro rfl trivial)) (k_Mod_readTake_j59 hl)
set_option maxRecDepth 20000 in
theorem k_Mod_readTake {l : Launch} {X : zX} (hl : l.stackTraces = false) {h : zH} : zGl l m_Mod_readTake X 0 0 (f_Mod_readTake h) (0, [some (zr (some (11, 333))), none, none], [], h) (fun x => .inr ((fun a => (.inl none, a) : zH → zF) x)) := by
  unfold f_Mod_readTake
  refine zG_run t_Mod [(.aload_n 0, 0, 0)] (1, [some (zr (some (11, 333))), none, none], [zr (some (11, 333))], h) (by decide +kernel) rfl ?_
  refine zG_callV (idx := 241) (R := (fun a => (none, a))) (as := []) (rest := []) (n := 0) (fun a ha => c_Mod_stepOn hl ha) (by decide +kernel) ⟨ok_Mod_stepOn, by decide, by decide +kernel⟩ rfl w_388 w_389 w_390 (by decide) rfl rfl rfl (Nat.le_of_ble_eq_true rfl) fun x1 => ?_
  refine zG_run t_Mod [(.aload_n 0, 0, 0)] (5, [some (zr (some (11, 333))), none, none], [zr (some (11, 333))], x1) (by decide +kernel) rfl ?_
  refine zG_callV (idx := 267) (R := (fun a => (some (zi a.1), a.2))) (as := []) (rest := []) (n := 0) (fun a ha => c_Mod_inputNow hl ha) (by decide +kernel) ⟨ok_Mod_inputNow, by decide, by decide +kernel⟩ rfl w_429 w_430 w_431 (by decide) rfl rfl rfl (Nat.le_of_ble_eq_true rfl) fun x2 => ?_
  refine zG_run t_Mod [(.istore_n 1, 0, 0), (.aload_n 0, 0, 0), (.getfield 216, 11, 24)] (13, [some (zr (some (11, 333))), some (zi x2.1), none], [zi (x2.2.1 333 24)], x2.2) (by decide +kernel) rfl ?_
  refine zG_if (op := .ne) (off := 21) (tgt := 34) (by decide +kernel) rfl Iff.rfl (fun c20 => ?_) (fun c20 => ?_)
  · exact zG_forget (L' := [some (zr (some (11, 333))), some (zi x2.1), none]) (And.intro rfl (And.intro rfl trivial)) (k_Mod_readTake_j34 hl)
  · refine zG_run t_Mod [(.aload_n 0, 0, 0), (.getfield 56, 11, 8), (.bipush 6, 0, 0), (.iload_n 1, 0, 0), (.iadd, 0, 0)] (24, [some (zr (some (11, 333))), some (zi x2.1), none], [zi (6 + x2.1), zr (some (67, 341))], x2.2) (by decide +kernel) rfl ?_
    refine zG_ald (v := zi (x2.2.1 341 (6 + x2.1).toNatClampNeg)) (n := 12) rfl (by decide +kernel) rfl rfl fun hb17 => ?_
    refine zG_run t_Mod [(.iconst (-1), 0, 0)] (26, [some (zr (some (11, 333))), some (zi x2.1), none], [zi (-1), zi (x2.2.1 341 (6 + x2.1).toNatClampNeg)], x2.2) (by decide +kernel) rfl ?_
    refine zG_icmp (op := .ne) (off := 8) (tgt := 34) (by decide +kernel) rfl Iff.rfl (fun c19 => ?_) (fun c19 => ?_)
    · exact zG_forget (L' := [some (zr (some (11, 333))), some (zi x2.1), none]) (And.intro rfl (And.intro rfl trivial)) (k_Mod_readTake_j34 hl)
    · refine zG_run t_Mod [(.aload_n 0, 0, 0), (.iconst 3, 0, 0)] (31, [some (zr (some (11, 333))), some (zi x2.1), none], [zi 3, zr (some (11, 333))], x2.2) (by decide +kernel) rfl ?_
      refine zG_callV (idx := 237) (R := (fun a => (none, a))) (as := [zi 3]) (rest := []) (n := 1) (fun a ha => c_Mod_wrong hl ha) (by decide +kernel) ⟨ok_Mod_wrong, by decide, by decide +kernel⟩ rfl w_396 w_397 w_398 (by decide) rfl rfl rfl (Nat.le_of_ble_eq_true rfl) fun x18 => ?_
      exact zG_forget (L' := [some (zr (some (11, 333))), some (zi x2.1), none]) (And.intro rfl (And.intro rfl trivial)) (k_Mod_readTake_j34 hl)
theorem c_Mod_readTake {l : Launch} {X : zX} (hl : l.stackTraces = false) {h : zH} {x : zH} (hx : f_Mod_readTake h = some x) : zCt l (true, 2) 2 m_Mod_readTake X 0 0 [zr (some (11, 333))] h ((fun a => (.inl none, a) : zH → zF) x) :=
  zG_ct (R := fun a => (.inl none, a)) (x := x) ok_Mod_readTake hl (Nat.le_of_ble_eq_true rfl) hx (k_Mod_readTake hl)
def m_Mod_readChain : zM := (({ cls := "ScanPackerModel", name := "readChain", desc := "()V" } : Jvm.MethodName), prog_13_method_26_code, 4, (Option.none : Option Jvm.ClassFile.FieldType), [], 11)
theorem ok_Mod_readChain : zMok m_Mod_readChain := ⟨by decide +kernel, zW_of 1756 (by decide +kernel) (by decide +kernel), zW_of 134 (by decide +kernel) (by decide +kernel), by decide, by decide +kernel, by decide +kernel⟩
set_option maxRecDepth 20000 in
theorem k_Mod_readChain_j143 {l : Launch} {X : zX} (hl : l.stackTraces = false) {h : zH} {v1 : Int32} {t0 : Int32} : zGl l m_Mod_readChain X 0 0 (f_Mod_readChain_j143 h v1 t0) (143, [some (zr (some (11, 333))), some (zi v1), none, none], [zi t0], h) (Sum.elim (fun s : Int32 × zH => .inl (41, [some (zr (some (11, 333))), some (zi v1), some (zi s.1), none], [], s.2)) (Sum.elim (fun y : zH => .inl (82, [none, none, none, none], [], y)) (fun y : zH => .inl (147, [some (zr (some (11, 333))), none, none, none], [], y)))) := by
  unfold f_Mod_readChain_j143
  refine zG_run t_Mod [(.istore_n 2, 0, 0), (.goto (-103), 0, 0)] (41, [some (zr (some (11, 333))), some (zi v1), some (zi t0), none], [], h) (by decide +kernel) rfl ?_
  exact zG_end (L' := [some (zr (some (11, 333))), some (zi v1), some (zi t0), none]) rfl (And.intro rfl (And.intro rfl (And.intro rfl trivial)))
set_option maxRecDepth 20000 in
theorem k_Mod_readChain_j75 {l : Launch} {X : zX} (hl : l.stackTraces = false) {h : zH} {v1 : Int32} {v3 : Int32} : zGl l m_Mod_readChain X 0 0 (f_Mod_readChain_j75 h v1 v3) (75, [some (zr (some (11, 333))), some (zi v1), none, some (zi v3)], [], h) (Sum.elim (fun s : Int32 × zH => .inl (41, [some (zr (some (11, 333))), some (zi v1), some (zi s.1), none], [], s.2)) (Sum.elim (fun y : zH => .inl (82, [none, none, none, none], [], y)) (fun y : zH => .inl (147, [some (zr (some (11, 333))), none, none, none], [], y)))) := by
  unfold f_Mod_readChain_j75
  refine zG_run t_Mod [(.aload_n 0, 0, 0), (.getfield 216, 11, 24)] (79, [some (zr (some (11, 333))), some (zi v1), none, some (zi v3)], [zi (h.1 333 24)], h) (by decide +kernel) rfl ?_
  refine zG_if (op := .eq) (off := 4) (tgt := 83) (by decide +kernel) rfl Iff.rfl (fun c15 => ?_) (fun c15 => ?_)
  · refine zG_run t_Mod [(.aload_n 0, 0, 0), (.getfield 56, 11, 8), (.bipush 6, 0, 0), (.iload_n 3, 0, 0), (.iadd, 0, 0), (.iload_n 1, 0, 0)] (92, [some (zr (some (11, 333))), some (zi v1), none, some (zi v3)], [zi v1, zi (6 + v3), zr (some (67, 341))], h) (by decide +kernel) rfl ?_
    refine zG_guard fun hb6 => ?_
    refine zG_bind (fun y => (93, [some (zr (some (11, 333))), some (zi v1), none, some (zi v3)], [], y)) (zG_astc (h' := zsI h 341 (6 + v3).toNatClampNeg v1) rfl (by decide +kernel) hb6 rfl (zG_end (L' := [some (zr (some (11, 333))), some (zi v1), none, some (zi v3)]) rfl (And.intro rfl (And.intro rfl (And.intro rfl trivial))))) fun h5 => ?_
    refine zG_run t_Mod [(.aload_n 0, 0, 0), (.getfield 65, 11, 11), (.bipush 6, 0, 0), (.iconst 3, 0, 0), (.iload_n 1, 0, 0), (.iadd, 0, 0), (.imul, 0, 0), (.aload_n 0, 0, 0), (.getfield 62, 11, 10), (.iconst 3, 0, 0), (.iload_n 1, 0, 0), (.iadd, 0, 0)] (110, [some (zr (some (11, 333))), some (zi v1), none, some (zi v3)], [zi (3 + v1), zr (some (69, 343)), zi (6 * (3 + v1)), zr (some (70, 344))], h5) (by decide +kernel) rfl ?_
    refine zG_ald (v := zi (h5.1 343 (3 + v1).toNatClampNeg)) (n := 6) rfl (by decide +kernel) rfl rfl fun hb7 => ?_
    refine zG_run t_Mod [(.iadd, 0, 0), (.iload_n 3, 0, 0)] (113, [some (zr (some (11, 333))), some (zi v1), none, some (zi v3)], [zi v3, zi ((6 * (3 + v1)) + (h5.1 343 (3 + v1).toNatClampNeg)), zr (some (70, 344))], h5) (by decide +kernel) rfl ?_
    refine zG_guard fun hb9 => ?_
    refine zG_bind (fun y => (114, [some (zr (some (11, 333))), some (zi v1), none, some (zi v3)], [], y)) (zG_astc (h' := zsI h5 344 ((6 * (3 + v1)) + (h5.1 343 (3 + v1).toNatClampNeg)).toNatClampNeg v3) rfl (by decide +kernel) hb9 rfl (zG_end (L' := [some (zr (some (11, 333))), some (zi v1), none, some (zi v3)]) rfl (And.intro rfl (And.intro rfl (And.intro rfl trivial))))) fun h8 => ?_
    refine zG_run t_Mod [(.aload_n 0, 0, 0), (.getfield 62, 11, 10), (.iconst 3, 0, 0), (.iload_n 1, 0, 0), (.iadd, 0, 0), (.dup2, 0, 0)] (122, [some (zr (some (11, 333))), some (zi v1), none, some (zi v3)], [zi (3 + v1), zr (some (69, 343)), zi (3 + v1), zr (some (69, 343))], h8) (by decide +kernel) rfl ?_
    refine zG_ald (v := zi (h8.1 343 (3 + v1).toNatClampNeg)) (n := 6) rfl (by decide +kernel) rfl rfl fun hb10 => ?_
    refine zG_run t_Mod [(.iconst 1, 0, 0), (.iadd, 0, 0)] (125, [some (zr (some (11, 333))), some (zi v1), none, some (zi v3)], [zi ((h8.1 343 (3 + v1).toNatClampNeg) + 1), zi (3 + v1), zr (some (69, 343))], h8) (by decide +kernel) rfl ?_
    refine zG_guard fun hb12 => ?_
    refine zG_bind (fun y => (126, [some (zr (some (11, 333))), some (zi v1), none, some (zi v3)], [], y)) (zG_astc (h' := zsI h8 343 (3 + v1).toNatClampNeg ((h8.1 343 (3 + v1).toNatClampNeg) + 1)) rfl (by decide +kernel) hb12 rfl (zG_end (L' := [some (zr (some (11, 333))), some (zi v1), none, some (zi v3)]) rfl (And.intro rfl (And.intro rfl (And.intro rfl trivial))))) fun h11 => ?_
    refine zG_run t_Mod [(.aload_n 0, 0, 0)] (127, [some (zr (some (11, 333))), some (zi v1), none, some (zi v3)], [zr (some (11, 333))], h11) (by decide +kernel) rfl ?_
    refine zG_callV (idx := 241) (R := (fun a => (none, a))) (as := []) (rest := []) (n := 0) (fun a ha => c_Mod_stepOn hl ha) (by decide +kernel) ⟨ok_Mod_stepOn, by decide, by decide +kernel⟩ rfl w_388 w_389 w_390 (by decide) rfl rfl rfl (Nat.le_of_ble_eq_true rfl) fun x13 => ?_
    refine zG_run t_Mod [(.aload_n 0, 0, 0), (.getfield 200, 11, 20), (.iconst 1, 0, 0)] (135, [some (zr (some (11, 333))), some (zi v1), none, some (zi v3)], [zi 1, zi (x13.1 333 20)], x13) (by decide +kernel) rfl ?_
    refine zG_icmp (op := .ne) (off := 7) (tgt := 142) (by decide +kernel) rfl Iff.rfl (fun c14 => ?_) (fun c14 => ?_)
    · refine zG_run t_Mod [(.iconst 0, 0, 0)] (143, [some (zr (some (11, 333))), some (zi v1), none, some (zi v3)], [zi 0], x13) (by decide +kernel) rfl ?_
      exact zG_forget (L' := [some (zr (some (11, 333))), some (zi v1), none, none]) (And.intro rfl (And.intro rfl trivial)) (k_Mod_readChain_j143 hl)
    · refine zG_run t_Mod [(.iconst 1, 0, 0), (.goto 4, 0, 0)] (143, [some (zr (some (11, 333))), some (zi v1), none, some (zi v3)], [zi 1], x13) (by decide +kernel) rfl ?_
      exact zG_forget (L' := [some (zr (some (11, 333))), some (zi v1), none, none]) (And.intro rfl (And.intro rfl trivial)) (k_Mod_readChain_j143 hl)
  · exact zG_end (L' := [none, none, none, none]) rfl (trivial)
set_option maxRecDepth 20000 in
theorem k_Mod_readChain_b41 {l : Launch} {X : zX} (hl : l.stackTraces = false) {h : zH} {v1 : Int32} {v2 : Int32} : zGl l m_Mod_readChain X 0 0 (f_Mod_readChain_b41 h v1 v2) (41, [some (zr (some (11, 333))), some (zi v1), some (zi v2), none], [], h) (Sum.elim (fun s : Int32 × zH => .inl (41, [some (zr (some (11, 333))), some (zi v1), some (zi s.1), none], [], s.2)) (Sum.elim (fun y : zH => .inl (82, [none, none, none, none], [], y)) (fun y : zH => .inl (147, [some (zr (some (11, 333))), none, none, none], [], y)))) := by
  unfold f_Mod_readChain_b41
  refine zG_run t_Mod [(.iload_n 2, 0, 0)] (42, [some (zr (some (11, 333))), some (zi v1), some (zi v2), none], [zi v2], h) (by decide +kernel) rfl ?_
  refine zG_if (op := .eq) (off := 105) (tgt := 147) (by decide +kernel) rfl Iff.rfl (fun c20 => ?_) (fun c20 => ?_)
  · exact zG_end (L' := [some (zr (some (11, 333))), none, none, none]) rfl (And.intro rfl trivial)
  · refine zG_run t_Mod [(.aload_n 0, 0, 0)] (46, [some (zr (some (11, 333))), some (zi v1), some (zi v2), none], [zr (some (11, 333))], h) (by decide +kernel) rfl ?_
    refine zG_callV (idx := 267) (R := (fun a => (some (zi a.1), a.2))) (as := []) (rest := []) (n := 0) (fun a ha => c_Mod_inputNow hl ha) (by decide +kernel) ⟨ok_Mod_inputNow, by decide, by decide +kernel⟩ rfl w_429 w_430 w_431 (by decide) rfl rfl rfl (Nat.le_of_ble_eq_true rfl) fun x4 => ?_
    refine zG_run t_Mod [(.istore_n 3, 0, 0), (.aload_n 0, 0, 0), (.getfield 216, 11, 24)] (54, [some (zr (some (11, 333))), some (zi v1), some (zi v2), some (zi x4.1)], [zi (x4.2.1 333 24)], x4.2) (by decide +kernel) rfl ?_
    refine zG_if (op := .ne) (off := 21) (tgt := 75) (by decide +kernel) rfl Iff.rfl (fun c19 => ?_) (fun c19 => ?_)
    · exact zG_forget (L' := [some (zr (some (11, 333))), some (zi v1), none, some (zi x4.1)]) (And.intro rfl (And.intro rfl (And.intro rfl trivial))) (k_Mod_readChain_j75 hl)
    · refine zG_run t_Mod [(.aload_n 0, 0, 0), (.getfield 56, 11, 8), (.bipush 6, 0, 0), (.iload_n 3, 0, 0), (.iadd, 0, 0)] (65, [some (zr (some (11, 333))), some (zi v1), some (zi v2), some (zi x4.1)], [zi (6 + x4.1), zr (some (67, 341))], x4.2) (by decide +kernel) rfl ?_
      refine zG_ald (v := zi (x4.2.1 341 (6 + x4.1).toNatClampNeg)) (n := 12) rfl (by decide +kernel) rfl rfl fun hb16 => ?_
      refine zG_run t_Mod [(.iconst (-1), 0, 0)] (67, [some (zr (some (11, 333))), some (zi v1), some (zi v2), some (zi x4.1)], [zi (-1), zi (x4.2.1 341 (6 + x4.1).toNatClampNeg)], x4.2) (by decide +kernel) rfl ?_
      refine zG_icmp (op := .eq) (off := 8) (tgt := 75) (by decide +kernel) rfl Iff.rfl (fun c18 => ?_) (fun c18 => ?_)
      · exact zG_forget (L' := [some (zr (some (11, 333))), some (zi v1), none, some (zi x4.1)]) (And.intro rfl (And.intro rfl (And.intro rfl trivial))) (k_Mod_readChain_j75 hl)
      · refine zG_run t_Mod [(.aload_n 0, 0, 0), (.iconst 5, 0, 0)] (72, [some (zr (some (11, 333))), some (zi v1), some (zi v2), some (zi x4.1)], [zi 5, zr (some (11, 333))], x4.2) (by decide +kernel) rfl ?_
        refine zG_callV (idx := 237) (R := (fun a => (none, a))) (as := [zi 5]) (rest := []) (n := 1) (fun a ha => c_Mod_wrong hl ha) (by decide +kernel) ⟨ok_Mod_wrong, by decide, by decide +kernel⟩ rfl w_396 w_397 w_398 (by decide) rfl rfl rfl (Nat.le_of_ble_eq_true rfl) fun x17 => ?_
        exact zG_forget (L' := [some (zr (some (11, 333))), some (zi v1), none, some (zi x4.1)]) (And.intro rfl (And.intro rfl (And.intro rfl trivial))) (k_Mod_readChain_j75 hl)
set_option maxRecDepth 20000 in
theorem k_Mod_readChain_j18 {l : Launch} {X : zX} (hl : l.stackTraces = false) {h : zH} {v1 : Int32} : zGl l m_Mod_readChain X 0 0 (f_Mod_readChain_j18 h v1) (18, [some (zr (some (11, 333))), some (zi v1), none, none], [], h) (fun x => .inr ((fun a => (.inl none, a) : zH → zF) x)) := by
  unfold f_Mod_readChain_j18
  refine zG_run t_Mod [(.aload_n 0, 0, 0), (.getfield 216, 11, 24)] (22, [some (zr (some (11, 333))), some (zi v1), none, none], [zi (h.1 333 24)], h) (by decide +kernel) rfl ?_
  refine zG_if (op := .eq) (off := 4) (tgt := 26) (by decide +kernel) rfl Iff.rfl (fun c25 => ?_) (fun c25 => ?_)
  · refine zG_run t_Mod [(.aload_n 0, 0, 0)] (27, [some (zr (some (11, 333))), some (zi v1), none, none], [zr (some (11, 333))], h) (by decide +kernel) rfl ?_
    refine zG_callV (idx := 241) (R := (fun a => (none, a))) (as := []) (rest := []) (n := 0) (fun a ha => c_Mod_stepOn hl ha) (by decide +kernel) ⟨ok_Mod_stepOn, by decide, by decide +kernel⟩ rfl w_388 w_389 w_390 (by decide) rfl rfl rfl (Nat.le_of_ble_eq_true rfl) fun x1 => ?_
    refine zG_run t_Mod [(.aload_n 0, 0, 0), (.getfield 62, 11, 10), (.iconst 3, 0, 0), (.iload_n 1, 0, 0), (.iadd, 0, 0), (.iconst 0, 0, 0)] (38, [some (zr (some (11, 333))), some (zi v1), none, none], [zi 0, zi (3 + v1), zr (some (69, 343))], x1) (by decide +kernel) rfl ?_
    refine zG_guard fun hb3 => ?_
    refine zG_bind (fun y => (39, [some (zr (some (11, 333))), some (zi v1), none, none], [], y)) (zG_astc (h' := zsI x1 343 (3 + v1).toNatClampNeg 0) rfl (by decide +kernel) hb3 rfl (zG_end (L' := [some (zr (some (11, 333))), some (zi v1), none, none]) rfl (And.intro rfl (And.intro rfl trivial)))) fun h2 => ?_
    refine zG_run t_Mod [(.iconst 1, 0, 0), (.istore_n 2, 0, 0)] (41, [some (zr (some (11, 333))), some (zi v1), some (zi 1), none], [], h2) (by decide +kernel) rfl ?_
    refine zG_forget (L' := [some (zr (some (11, 333))), some (zi v1), some (zi 1), none]) (And.intro rfl (And.intro rfl (And.intro rfl trivial))) ?_
    refine zG_bind2 (fun y : zH => (82, [none, none, none, none], [], y)) (fun y : zH => (147, [some (zr (some (11, 333))), none, none, none], [], y)) (zG_iter (fun s : Int32 × zH => (41, [some (zr (some (11, 333))), some (zi v1), some (zi s.1), none], [], s.2)) fun s => k_Mod_readChain_b41 hl) (fun y22 => ?_) (fun y23 => ?_)
    · exact zG_ret (r := none) rfl (zrd_v rfl (by decide +kernel))
    · refine zG_run t_Mod [(.aload_n 0, 0, 0), (.getfield 40, 11, 3), (.bipush 7, 0, 0), (.dup2, 0, 0)] (154, [some (zr (some (11, 333))), none, none, none], [zi 7, zr (some (62, 336)), zi 7, zr (some (62, 336))], y23) (by decide +kernel) rfl ?_
      refine zG_aldc (v := zi (y23.1 336 7)) rfl (by decide +kernel) (by decide +kernel) rfl ?_
      refine zG_run t_Mod [(.iconst 1, 0, 0), (.iadd, 0, 0)] (157, [some (zr (some (11, 333))), none, none, none], [zi ((y23.1 336 7) + 1), zi 7, zr (some (62, 336))], y23) (by decide +kernel) rfl ?_
      refine zG_bind (fun y => (158, [some (zr (some (11, 333))), none, none, none], [], y)) (zG_astc (h' := zsI y23 336 7 ((y23.1 336 7) + 1)) rfl (by decide +kernel) (by decide +kernel) rfl (zG_end (L' := [some (zr (some (11, 333))), none, none, none]) rfl (And.intro rfl trivial))) fun h24 => ?_
      exact zG_ret (r := none) rfl (zrd_v rfl (by decide +kernel))
  · exact zG_ret (r := none) rfl (zrd_v rfl (by decide +kernel))
set_option maxRecDepth 20000 in
theorem k_Mod_readChain {l : Launch} {X : zX} (hl : l.stackTraces = false) {h : zH} : zGl l m_Mod_readChain X 0 0 (f_Mod_readChain h) (0, [some (zr (some (11, 333))), none, none, none], [], h) (fun x => .inr ((fun a => (.inl none, a) : zH → zF) x)) := by
  unfold f_Mod_readChain
  refine zG_run t_Mod [(.aload_n 0, 0, 0), (.getfield 40, 11, 3), (.bipush 7, 0, 0)] (6, [some (zr (some (11, 333))), none, none, none], [zi 7, zr (some (62, 336))], h) (by decide +kernel) rfl ?_
  refine zG_aldc (v := zi (h.1 336 7)) rfl (by decide +kernel) (by decide +kernel) rfl ?_
  refine zG_run t_Mod [(.istore_n 1, 0, 0), (.iload_n 1, 0, 0), (.iconst 3, 0, 0)] (10, [some (zr (some (11, 333))), some (zi (h.1 336 7)), none, none], [zi 3, zi (h.1 336 7)], h) (by decide +kernel) rfl ?_
  refine zG_icmp (op := .ne) (off := 8) (tgt := 18) (by decide +kernel) rfl Iff.rfl (fun c27 => ?_) (fun c27 => ?_)
  · exact zG_forget (L' := [some (zr (some (11, 333))), some (zi (h.1 336 7)), none, none]) (And.intro rfl (And.intro rfl trivial)) (k_Mod_readChain_j18 hl)
  · refine zG_run t_Mod [(.aload_n 0, 0, 0), (.iconst 2, 0, 0)] (15, [some (zr (some (11, 333))), some (zi (h.1 336 7)), none, none], [zi 2, zr (some (11, 333))], h) (by decide +kernel) rfl ?_
    refine zG_callV (idx := 237) (R := (fun a => (none, a))) (as := [zi 2]) (rest := []) (n := 1) (fun a ha => c_Mod_wrong hl ha) (by decide +kernel) ⟨ok_Mod_wrong, by decide, by decide +kernel⟩ rfl w_396 w_397 w_398 (by decide) rfl rfl rfl (Nat.le_of_ble_eq_true rfl) fun x26 => ?_
    exact zG_forget (L' := [some (zr (some (11, 333))), some (zi (h.1 336 7)), none, none]) (And.intro rfl (And.intro rfl trivial)) (k_Mod_readChain_j18 hl)
theorem c_Mod_readChain {l : Launch} {X : zX} (hl : l.stackTraces = false) {h : zH} {x : zH} (hx : f_Mod_readChain h = some x) : zCt l (true, 2) 2 m_Mod_readChain X 0 0 [zr (some (11, 333))] h ((fun a => (.inl none, a) : zH → zF) x) :=
  zG_ct (R := fun a => (.inl none, a)) (x := x) ok_Mod_readChain hl (Nat.le_of_ble_eq_true rfl) hx (k_Mod_readChain hl)
