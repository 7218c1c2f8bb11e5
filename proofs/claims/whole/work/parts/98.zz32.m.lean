/-! methods, by wip/whole/gen.py -/
def m_Main_bitOf : zM := (({ cls := "ScanPacker", name := "bitOf", desc := "(II)I" } : Jvm.MethodName), prog_1_method_47_code, 2, (Option.some Jvm.ClassFile.FieldType.int), [], 1)
theorem ok_Main_bitOf : zMok m_Main_bitOf := ⟨by decide +kernel, zW_of 623 (by decide +kernel) (by decide +kernel), zW_of 122 (by decide +kernel) (by decide +kernel), by decide, by decide +kernel, by decide +kernel⟩
set_option maxRecDepth 20000 in
theorem k_Main_bitOf {l : Launch} {X : zX} (hl : l.stackTraces = false) {h : zH} {v0 : Int32} {v1 : Int32} : zGl l m_Main_bitOf X 0 0 (f_Main_bitOf v0 v1) (0, [some (zi v0), some (zi v1)], [], h) (fun x => .inr ((fun a => (.inl (some (zi a)), h) : Int32 → zF) x)) := by
  unfold f_Main_bitOf
  refine zG_run t_Main [(.iload_n 0, 0, 0), (.iload_n 1, 0, 0), (.iushr, 0, 0), (.iconst 1, 0, 0), (.iand, 0, 0)] (5, [some (zi v0), some (zi v1)], [zi ((zushr v0 v1) &&& 1)], h) (by decide +kernel) rfl ?_
  exact zG_ret (r := some (zi ((zushr v0 v1) &&& 1))) rfl (zrd_i rfl (by decide +kernel))
theorem c_Main_bitOf {l : Launch} {X : zX} (hl : l.stackTraces = false) {h : zH} {v0 : Int32} {v1 : Int32} {x : Int32} (hx : f_Main_bitOf v0 v1 = some x) : zCt l (true, 2) 2 m_Main_bitOf X 0 0 [zi v0, zi v1] h ((fun a => (.inl (some (zi a)), h) : Int32 → zF) x) :=
  zG_ct (R := fun a => (.inl (some (zi a)), h)) (x := x) ok_Main_bitOf hl (Nat.le_of_ble_eq_true rfl) hx (k_Main_bitOf hl)
def m_Parser_readSee : zM := (({ cls := "ScanPacker$Parser", name := "readSee", desc := "()Z" } : Jvm.MethodName), prog_6_method_9_code, 3, (Option.some Jvm.ClassFile.FieldType.boolean), [], 4)
theorem ok_Parser_readSee : zMok m_Parser_readSee := ⟨by decide +kernel, zW_of 1036 (by decide +kernel) (by decide +kernel), zW_of 123 (by decide +kernel) (by decide +kernel), by decide, by decide +kernel, by decide +kernel⟩
set_option maxRecDepth 20000 in
theorem k_Parser_readSee_j33 {l : Launch} {X : zX} (hl : l.stackTraces = false) {h : zH} {v1 : Int32} : zGl l m_Parser_readSee X 0 0 (f_Parser_readSee_j33 h v1) (33, [some (zr (some (5, 1))), some (zi v1), none], [], h) (Sum.elim (fun s : Int32 × zH => .inl (2, [some (zr (some (5, 1))), some (zi s.1), none], [], s.2)) (Sum.elim (fun y : zH => .inl (31, [none, none, none], [], y)) (Sum.elim (fun y : zH => .inl (43, [none, none, none], [], y)) (Sum.elim (fun y : zH => .inl (60, [some (zr (some (5, 1))), none, none], [], y)) (fun y : zH => .inl (87, [some (zr (some (5, 1))), none, none], [], y)))))) := by
  unfold f_Parser_readSee_j33
  refine zG_run t_Parser [(.aload_n 0, 0, 0)] (34, [some (zr (some (5, 1))), some (zi v1), none], [zr (some (5, 1))], h) (by decide +kernel) rfl ?_
  refine zG_callV (idx := 103) (R := (fun a => (some (zi a.1), a.2))) (as := []) (rest := []) (n := 0) (fun a ha => c_Parser_lineHere hl ha) (by decide +kernel) ⟨ok_Parser_lineHere, by decide, by decide +kernel⟩ rfl w_49 w_50 w_51 (by decide) rfl rfl rfl (Nat.le_of_ble_eq_true rfl) fun x2 => ?_
  refine zG_run t_Parser [(.istore_n 2, 0, 0), (.iload_n 2, 0, 0), (.iconst (-1), 0, 0)] (40, [some (zr (some (5, 1))), some (zi v1), some (zi x2.1)], [zi (-1), zi x2.1], x2.2) (by decide +kernel) rfl ?_
  refine zG_icmp (op := .ne) (off := 5) (tgt := 45) (by decide +kernel) rfl Iff.rfl (fun c8 => ?_) (fun c8 => ?_)
  · refine zG_run t_Parser [(.aload_n 0, 0, 0), (.getfield 21, 5, 1)] (49, [some (zr (some (5, 1))), some (zi v1), some (zi x2.1)], [zr (x2.2.2.2.1 1 1)], x2.2) (by decide +kernel) rfl ?_
    refine zG_dyn fun w3 _ => ?_
    refine zG_run t_Parser [(.getfield 110, 3, 5), (.iload_n 2, 0, 0)] (53, [some (zr (some (5, 1))), some (zi v1), some (zi x2.1)], [zi x2.1, zi (x2.2.1 w3 5)], x2.2) (by decide +kernel) rfl ?_
    refine zG_callN (idx := 113) (host := "ScanPacker") (R := (fun a => (some (zi a), x2.2))) (as := [zi (x2.2.1 w3 5), zi x2.1]) (rest := []) (n := 2) (fun a ha => c_Main_bitOf hl ha) (by decide +kernel) ⟨ok_Main_bitOf, by decide, by decide +kernel⟩ rfl (by decide +kernel) w_68 rfl rfl (Nat.le_of_ble_eq_true rfl) fun x4 => ?_
    refine zG_run t_Parser [(.iconst 1, 0, 0)] (57, [some (zr (some (5, 1))), some (zi v1), some (zi x2.1)], [zi 1, zi x4], x2.2) (by decide +kernel) rfl ?_
    refine zG_icmp (op := .ne) (off := 9) (tgt := 66) (by decide +kernel) rfl Iff.rfl (fun c7 => ?_) (fun c7 => ?_)
    · refine zG_run t_Parser [(.aload_n 0, 0, 0), (.getfield 21, 5, 1)] (70, [some (zr (some (5, 1))), some (zi v1), some (zi x2.1)], [zr (x2.2.2.2.1 1 1)], x2.2) (by decide +kernel) rfl ?_
      refine zG_dyn fun w5 _ => ?_
      refine zG_bind (fun y => (81, [some (zr (some (5, 1))), some (zi v1), some (zi x2.1)], [], y)) (zG_run t_Parser [(.dup, 0, 0), (.getfield 110, 3, 5), (.iconst 1, 0, 0), (.iload_n 2, 0, 0), (.ishl, 0, 0), (.ior, 0, 0), (.putfield 110, 3, 5)] (81, [some (zr (some (5, 1))), some (zi v1), some (zi x2.1)], [], zsI x2.2 w5 5 ((x2.2.1 w5 5) ||| (zshl 1 x2.1))) (by decide +kernel) rfl (zG_end (L' := [some (zr (some (5, 1))), some (zi v1), some (zi x2.1)]) rfl (And.intro rfl (And.intro rfl (And.intro rfl trivial))))) fun h6 => ?_
      refine zG_run t_Parser [(.iinc 1 1, 0, 0), (.goto (-82), 0, 0)] (2, [some (zr (some (5, 1))), some (zi (v1 + 1)), some (zi x2.1)], [], h6) (by decide +kernel) rfl ?_
      exact zG_end (L' := [some (zr (some (5, 1))), some (zi (v1 + 1)), none]) rfl (And.intro rfl (And.intro rfl trivial))
    · exact zG_end (L' := [some (zr (some (5, 1))), none, none]) rfl (And.intro rfl trivial)
  · exact zG_end (L' := [none, none, none]) rfl (trivial)
set_option maxRecDepth 20000 in
theorem k_Parser_readSee_b2 {l : Launch} {X : zX} (hl : l.stackTraces = false) {h : zH} {v1 : Int32} : zGl l m_Parser_readSee X 0 0 (f_Parser_readSee_b2 h v1) (2, [some (zr (some (5, 1))), some (zi v1), none], [], h) (Sum.elim (fun s : Int32 × zH => .inl (2, [some (zr (some (5, 1))), some (zi s.1), none], [], s.2)) (Sum.elim (fun y : zH => .inl (31, [none, none, none], [], y)) (Sum.elim (fun y : zH => .inl (43, [none, none, none], [], y)) (Sum.elim (fun y : zH => .inl (60, [some (zr (some (5, 1))), none, none], [], y)) (fun y : zH => .inl (87, [some (zr (some (5, 1))), none, none], [], y)))))) := by
  unfold f_Parser_readSee_b2
  refine zG_run t_Parser [(.iload_n 1, 0, 0), (.sipush 900, 0, 0)] (6, [some (zr (some (5, 1))), some (zi v1), none], [zi 900, zi v1], h) (by decide +kernel) rfl ?_
  refine zG_icmp (op := .ge) (off := 81) (tgt := 87) (by decide +kernel) rfl Iff.rfl (fun c11 => ?_) (fun c11 => ?_)
  · exact zG_end (L' := [some (zr (some (5, 1))), none, none]) rfl (And.intro rfl trivial)
  · refine zG_run t_Parser [(.aload_n 0, 0, 0), (.getfield 12, 5, 0)] (13, [some (zr (some (5, 1))), some (zi v1), none], [zr (some (9, 2))], h) (by decide +kernel) rfl ?_
    refine zG_callV (idx := 39) (R := (fun a => (none, a))) (as := []) (rest := []) (n := 0) (fun a ha => c_Tape_advance hl ha) (by decide +kernel) ⟨ok_Tape_advance, by decide, by decide +kernel⟩ rfl w_28 w_29 w_30 (by decide) rfl rfl rfl (Nat.le_of_ble_eq_true rfl) fun x1 => ?_
    refine zG_run t_Parser [(.iload_n 1, 0, 0)] (17, [some (zr (some (5, 1))), some (zi v1), none], [zi v1], x1) (by decide +kernel) rfl ?_
    refine zG_if (op := .le) (off := 16) (tgt := 33) (by decide +kernel) rfl Iff.rfl (fun c10 => ?_) (fun c10 => ?_)
    · exact zG_forget (L' := [some (zr (some (5, 1))), some (zi v1), none]) (And.intro rfl (And.intro rfl trivial)) (k_Parser_readSee_j33 hl)
    · refine zG_run t_Parser [(.aload_n 0, 0, 0), (.getfield 12, 5, 0), (.getfield 42, 9, 4), (.iconst 3, 0, 0)] (28, [some (zr (some (5, 1))), some (zi v1), none], [zi 3, zi (x1.1 2 4)], x1) (by decide +kernel) rfl ?_
      refine zG_icmp (op := .ne) (off := 5) (tgt := 33) (by decide +kernel) rfl Iff.rfl (fun c9 => ?_) (fun c9 => ?_)
      · exact zG_forget (L' := [some (zr (some (5, 1))), some (zi v1), none]) (And.intro rfl (And.intro rfl trivial)) (k_Parser_readSee_j33 hl)
      · exact zG_end (L' := [none, none, none]) rfl (trivial)
set_option maxRecDepth 20000 in
theorem k_Parser_readSee {l : Launch} {X : zX} (hl : l.stackTraces = false) {h : zH} : zGl l m_Parser_readSee X 0 0 (f_Parser_readSee h) (0, [some (zr (some (5, 1))), none, none], [], h) (fun x => .inr ((fun a => (.inl (some (zi a.1)), a.2) : Int32 × zH → zF) x)) := by
  unfold f_Parser_readSee
  refine zG_run t_Parser [(.iconst 0, 0, 0), (.istore_n 1, 0, 0)] (2, [some (zr (some (5, 1))), some (zi 0), none], [], h) (by decide +kernel) rfl ?_
  refine zG_forget (L' := [some (zr (some (5, 1))), some (zi 0), none]) (And.intro rfl (And.intro rfl trivial)) ?_
  refine zG_bind4 (fun y : zH => (31, [none, none, none], [], y)) (fun y : zH => (43, [none, none, none], [], y)) (fun y : zH => (60, [some (zr (some (5, 1))), none, none], [], y)) (fun y : zH => (87, [some (zr (some (5, 1))), none, none], [], y)) (zG_iter (fun s : Int32 × zH => (2, [some (zr (some (5, 1))), some (zi s.1), none], [], s.2)) fun s => k_Parser_readSee_b2 hl) (fun y13 => ?_) (fun y14 => ?_) (fun y15 => ?_) (fun y18 => ?_)
  · refine zG_run t_Parser [(.iconst 1, 0, 0)] (32, [none, none, none], [zi 1], y13) (by decide +kernel) rfl ?_
    exact zG_ret (r := some (zi 1)) rfl (zrd_z rfl (by decide +kernel) rfl)
  · refine zG_run t_Parser [(.iconst 0, 0, 0)] (44, [none, none, none], [zi 0], y14) (by decide +kernel) rfl ?_
    exact zG_ret (r := some (zi 0)) rfl (zrd_z rfl (by decide +kernel) rfl)
  · refine zG_run t_Parser [(.aload_n 0, 0, 0), (.iconst 5, 0, 0)] (62, [some (zr (some (5, 1))), none, none], [zi 5, zr (some (5, 1))], y15) (by decide +kernel) rfl ?_
    refine zG_callV (idx := 71) (R := (fun a => (some (zi a.1), a.2))) (as := [zi 5]) (rest := []) (n := 1) (fun a ha => c_Parser_refuse hl ha) (by decide +kernel) ⟨ok_Parser_refuse, by decide, by decide +kernel⟩ rfl w_40 w_41 w_42 (by decide) rfl rfl rfl (Nat.le_of_ble_eq_true rfl) fun x16 => ?_
    refine zG_guard fun hb17 => ?_
    exact zG_ret (r := some (zi x16.1)) rfl (zrd_z rfl (by decide +kernel) hb17)
  · refine zG_run t_Parser [(.aload_n 0, 0, 0), (.iconst 1, 0, 0)] (89, [some (zr (some (5, 1))), none, none], [zi 1, zr (some (5, 1))], y18) (by decide +kernel) rfl ?_
    refine zG_callV (idx := 71) (R := (fun a => (some (zi a.1), a.2))) (as := [zi 1]) (rest := []) (n := 1) (fun a ha => c_Parser_refuse hl ha) (by decide +kernel) ⟨ok_Parser_refuse, by decide, by decide +kernel⟩ rfl w_40 w_41 w_42 (by decide) rfl rfl rfl (Nat.le_of_ble_eq_true rfl) fun x19 => ?_
    refine zG_guard fun hb20 => ?_
    exact zG_ret (r := some (zi x19.1)) rfl (zrd_z rfl (by decide +kernel) hb20)
theorem c_Parser_readSee {l : Launch} {X : zX} (hl : l.stackTraces = false) {h : zH} {x : Int32 × zH} (hx : f_Parser_readSee h = some x) : zCt l (true, 2) 2 m_Parser_readSee X 0 0 [zr (some (5, 1))] h ((fun a => (.inl (some (zi a.1)), a.2) : Int32 × zH → zF) x) :=
  zG_ct (R := fun a => (.inl (some (zi a.1)), a.2)) (x := x) ok_Parser_readSee hl (Nat.le_of_ble_eq_true rfl) hx (k_Parser_readSee hl)
def m_Parser_inputHere : zM := (({ cls := "ScanPacker$Parser", name := "inputHere", desc := "()I" } : Jvm.MethodName), prog_6_method_17_code, 2, (Option.some Jvm.ClassFile.FieldType.int), [], 4)
theorem ok_Parser_inputHere : zMok m_Parser_inputHere := ⟨by decide +kernel, zW_of 1045 (by decide +kernel) (by decide +kernel), zW_of 123 (by decide +kernel) (by decide +kernel), by decide, by decide +kernel, by decide +kernel⟩
set_option maxRecDepth 20000 in
theorem k_Parser_inputHere {l : Launch} {X : zX} (hl : l.stackTraces = false) {h : zH} : zGl l m_Parser_inputHere X 0 0 (f_Parser_inputHere h) (0, [some (zr (some (5, 1))), none], [], h) (fun x => .inr ((fun a => (.inl (some (zi a.1)), a.2) : Int32 × zH → zF) x)) := by
  unfold f_Parser_inputHere
  refine zG_run t_Parser [(.aload_n 0, 0, 0)] (1, [some (zr (some (5, 1))), none], [zr (some (5, 1))], h) (by decide +kernel) rfl ?_
  refine zG_callV (idx := 103) (R := (fun a => (some (zi a.1), a.2))) (as := []) (rest := []) (n := 0) (fun a ha => c_Parser_lineHere hl ha) (by decide +kernel) ⟨ok_Parser_lineHere, by decide, by decide +kernel⟩ rfl w_49 w_50 w_51 (by decide) rfl rfl rfl (Nat.le_of_ble_eq_true rfl) fun x1 => ?_
  refine zG_run t_Parser [(.istore_n 1, 0, 0), (.iload_n 1, 0, 0), (.aload_n 0, 0, 0), (.getfield 21, 5, 1)] (10, [some (zr (some (5, 1))), some (zi x1.1)], [zr (x1.2.2.2.1 1 1), zi x1.1], x1.2) (by decide +kernel) rfl ?_
  refine zG_dyn fun w2 _ => ?_
  refine zG_run t_Parser [(.getfield 78, 3, 0)] (13, [some (zr (some (5, 1))), some (zi x1.1)], [zi (x1.2.1 w2 0), zi x1.1], x1.2) (by decide +kernel) rfl ?_
  refine zG_icmp (op := .lt) (off := 11) (tgt := 24) (by decide +kernel) rfl Iff.rfl (fun c4 => ?_) (fun c4 => ?_)
  · refine zG_run t_Parser [(.iload_n 1, 0, 0)] (25, [some (zr (some (5, 1))), some (zi x1.1)], [zi x1.1], x1.2) (by decide +kernel) rfl ?_
    exact zG_ret (r := some (zi x1.1)) rfl (zrd_i rfl (by decide +kernel))
  · refine zG_run t_Parser [(.aload_n 0, 0, 0), (.iconst 3, 0, 0)] (18, [some (zr (some (5, 1))), some (zi x1.1)], [zi 3, zr (some (5, 1))], x1.2) (by decide +kernel) rfl ?_
    refine zG_callV (idx := 71) (R := (fun a => (some (zi a.1), a.2))) (as := [zi 3]) (rest := []) (n := 1) (fun a ha => c_Parser_refuse hl ha) (by decide +kernel) ⟨ok_Parser_refuse, by decide, by decide +kernel⟩ rfl w_40 w_41 w_42 (by decide) rfl rfl rfl (Nat.le_of_ble_eq_true rfl) fun x3 => ?_
    refine zG_run t_Parser [(.pop, 0, 0), (.iconst (-1), 0, 0)] (23, [some (zr (some (5, 1))), some (zi x1.1)], [zi (-1)], x3.2) (by decide +kernel) rfl ?_
    exact zG_ret (r := some (zi (-1))) rfl (zrd_i rfl (by decide +kernel))
theorem c_Parser_inputHere {l : Launch} {X : zX} (hl : l.stackTraces = false) {h : zH} {x : Int32 × zH} (hx : f_Parser_inputHere h = some x) : zCt l (true, 2) 2 m_Parser_inputHere X 0 0 [zr (some (5, 1))] h ((fun a => (.inl (some (zi a.1)), a.2) : Int32 × zH → zF) x) :=
  zG_ct (R := fun a => (.inl (some (zi a.1)), a.2)) (x := x) ok_Parser_inputHere hl (Nat.le_of_ble_eq_true rfl) hx (k_Parser_inputHere hl)
def m_Net_addCell : zM := (({ cls := "ScanPacker$Net", name := "addCell", desc := "(II)V" } : Jvm.MethodName), prog_4_method_11_code, 3, (Option.none : Option Jvm.ClassFile.FieldType), [], 1)
theorem ok_Net_addCell : zMok m_Net_addCell := ⟨by decide +kernel, zW_of 1049 (by decide +kernel) (by decide +kernel), zW_of 125 (by decide +kernel) (by decide +kernel), by decide, by decide +kernel, by decide +kernel⟩
set_option maxRecDepth 20000 in
theorem k_Net_addCell {l : Launch} {X : zX} (hl : l.stackTraces = false) {o : Nat} {h : zH} {v1 : Int32} {v2 : Int32} : zGl l m_Net_addCell X 0 0 (f_Net_addCell o h v1 v2) (0, [some (zr (some (3, o))), some (zi v1), some (zi v2)], [], h) (fun x => .inr ((fun a => (.inl none, a) : zH → zF) x)) := by
  unfold f_Net_addCell
  refine zG_run t_Net [(.iload_n 1, 0, 0), (.iconst 3, 0, 0)] (2, [some (zr (some (3, o))), some (zi v1), some (zi v2)], [zi 3, zi v1], h) (by decide +kernel) rfl ?_
  refine zG_icmp (op := .ge) (off := 14) (tgt := 16) (by decide +kernel) rfl Iff.rfl (fun c12 => ?_) (fun c12 => ?_)
  · exact zG_ret (r := none) rfl (zrd_v rfl (by decide +kernel))
  · refine zG_run t_Net [(.aload_n 0, 0, 0), (.getfield 38, 3, 15), (.iload_n 1, 0, 0)] (10, [some (zr (some (3, o))), some (zi v1), some (zi v2)], [zi v1, zr (some (31, (o + 34)))], h) (by decide +kernel) rfl ?_
    refine zG_ald (v := zi (h.1 (o + 34) v1.toNatClampNeg)) (n := 3) rfl (by decide +kernel) rfl rfl fun hb1 => ?_
    refine zG_run t_Net [(.bipush 6, 0, 0)] (13, [some (zr (some (3, o))), some (zi v1), some (zi v2)], [zi 6, zi (h.1 (o + 34) v1.toNatClampNeg)], h) (by decide +kernel) rfl ?_
    refine zG_icmp (op := .lt) (off := 4) (tgt := 17) (by decide +kernel) rfl Iff.rfl (fun c11 => ?_) (fun c11 => ?_)
    · refine zG_run t_Net [(.aload_n 0, 0, 0), (.getfield 29, 3, 12), (.iload_n 2, 0, 0), (.iload_n 1, 0, 0)] (23, [some (zr (some (3, o))), some (zi v1), some (zi v2)], [zi v1, zi v2, zr (some (27, (o + 28)))], h) (by decide +kernel) rfl ?_
      refine zG_guard fun hb3 => ?_
      refine zG_bind (fun y => (24, [some (zr (some (3, o))), some (zi v1), some (zi v2)], [], y)) (zG_astc (h' := zsI h (o + 28) v2.toNatClampNeg v1) rfl (by decide +kernel) hb3 rfl (zG_end (L' := [some (zr (some (3, o))), some (zi v1), some (zi v2)]) rfl (And.intro rfl (And.intro rfl (And.intro rfl trivial))))) fun h2 => ?_
      refine zG_run t_Net [(.aload_n 0, 0, 0), (.getfield 35, 3, 14), (.iload_n 1, 0, 0)] (29, [some (zr (some (3, o))), some (zi v1), some (zi v2)], [zi v1, zr (some (29, (o + 30)))], h2) (by decide +kernel) rfl ?_
      refine zG_ald (v := zr (some (30, ((o + 30) + (1 + 1 * v1.toNatClampNeg))))) (n := 3) rfl (by decide +kernel) rfl rfl fun hb4 => ?_
      refine zG_run t_Net [(.aload_n 0, 0, 0), (.getfield 38, 3, 15), (.iload_n 1, 0, 0)] (35, [some (zr (some (3, o))), some (zi v1), some (zi v2)], [zi v1, zr (some (31, (o + 34))), zr (some (30, ((o + 30) + (1 + 1 * v1.toNatClampNeg))))], h2) (by decide +kernel) rfl ?_
      refine zG_ald (v := zi (h2.1 (o + 34) v1.toNatClampNeg)) (n := 3) rfl (by decide +kernel) rfl rfl fun hb5 => ?_
      refine zG_run t_Net [(.iload_n 2, 0, 0)] (37, [some (zr (some (3, o))), some (zi v1), some (zi v2)], [zi v2, zi (h2.1 (o + 34) v1.toNatClampNeg), zr (some (30, ((o + 30) + (1 + 1 * v1.toNatClampNeg))))], h2) (by decide +kernel) rfl ?_
      refine zG_guard fun hb7 => ?_
      refine zG_bind (fun y => (38, [some (zr (some (3, o))), some (zi v1), some (zi v2)], [], y)) (zG_astc (h' := zsI h2 ((o + 30) + (1 + 1 * v1.toNatClampNeg)) (h2.1 (o + 34) v1.toNatClampNeg).toNatClampNeg v2) rfl (by decide +kernel) hb7 rfl (zG_end (L' := [some (zr (some (3, o))), some (zi v1), some (zi v2)]) rfl (And.intro rfl (And.intro rfl (And.intro rfl trivial))))) fun h6 => ?_
      refine zG_run t_Net [(.aload_n 0, 0, 0), (.getfield 38, 3, 15), (.iload_n 1, 0, 0), (.dup2, 0, 0)] (44, [some (zr (some (3, o))), some (zi v1), some (zi v2)], [zi v1, zr (some (31, (o + 34))), zi v1, zr (some (31, (o + 34)))], h6) (by decide +kernel) rfl ?_
      refine zG_ald (v := zi (h6.1 (o + 34) v1.toNatClampNeg)) (n := 3) rfl (by decide +kernel) rfl rfl fun hb8 => ?_
      refine zG_run t_Net [(.iconst 1, 0, 0), (.iadd, 0, 0)] (47, [some (zr (some (3, o))), some (zi v1), some (zi v2)], [zi ((h6.1 (o + 34) v1.toNatClampNeg) + 1), zi v1, zr (some (31, (o + 34)))], h6) (by decide +kernel) rfl ?_
      refine zG_guard fun hb10 => ?_
      refine zG_bind (fun y => (48, [some (zr (some (3, o))), some (zi v1), some (zi v2)], [], y)) (zG_astc (h' := zsI h6 (o + 34) v1.toNatClampNeg ((h6.1 (o + 34) v1.toNatClampNeg) + 1)) rfl (by decide +kernel) hb10 rfl (zG_end (L' := [some (zr (some (3, o))), some (zi v1), some (zi v2)]) rfl (And.intro rfl (And.intro rfl (And.intro rfl trivial))))) fun h9 => ?_
      exact zG_ret (r := none) rfl (zrd_v rfl (by decide +kernel))
    · exact zG_ret (r := none) rfl (zrd_v rfl (by decide +kernel))
theorem c_Net_addCell {l : Launch} {X : zX} (hl : l.stackTraces = false) {o : Nat} {h : zH} {v1 : Int32} {v2 : Int32} {x : zH} (hx : f_Net_addCell o h v1 v2 = some x) : zCt l (true, 2) 2 m_Net_addCell X 0 0 [zr (some (3, o)), zi v1, zi v2] h ((fun a => (.inl none, a) : zH → zF) x) :=
  zG_ct (R := fun a => (.inl none, a)) (x := x) ok_Net_addCell hl (Nat.le_of_ble_eq_true rfl) hx (k_Net_addCell hl)
def m_Parser_readChain : zM := (({ cls := "ScanPacker$Parser", name := "readChain", desc := "()Z" } : Jvm.MethodName), prog_6_method_10_code, 4, (Option.some Jvm.ClassFile.FieldType.boolean), [], 5)
theorem ok_Parser_readChain : zMok m_Parser_readChain := ⟨by decide +kernel, zW_of 1041 (by decide +kernel) (by decide +kernel), zW_of 123 (by decide +kernel) (by decide +kernel), by decide, by decide +kernel, by decide +kernel⟩
set_option maxRecDepth 20000 in
theorem k_Parser_readChain_j75 {l : Launch} {X : zX} (hl : l.stackTraces = false) {h : zH} {v1 : Int32} {v2 : Int32} : zGl l m_Parser_readChain X 0 0 (f_Parser_readChain_j75 h v1 v2) (75, [some (zr (some (5, 1))), some (zi v1), some (zi v2), none], [], h) (Sum.elim (fun s : Int32 × zH => .inl (44, [some (zr (some (5, 1))), some (zi v1), some (zi s.1), none], [], s.2)) (Sum.elim (fun y : zH => .inl (73, [none, none, none, none], [], y)) (Sum.elim (fun y : zH => .inl (85, [none, none, none, none], [], y)) (Sum.elim (fun y : zH => .inl (100, [some (zr (some (5, 1))), none, none, none], [], y)) (fun y : zH => .inl (121, [some (zr (some (5, 1))), none, none, none], [], y)))))) := by
  unfold f_Parser_readChain_j75
  refine zG_run t_Parser [(.aload_n 0, 0, 0)] (76, [some (zr (some (5, 1))), some (zi v1), some (zi v2), none], [zr (some (5, 1))], h) (by decide +kernel) rfl ?_
  refine zG_callV (idx := 124) (R := (fun a => (some (zi a.1), a.2))) (as := []) (rest := []) (n := 0) (fun a ha => c_Parser_inputHere hl ha) (by decide +kernel) ⟨ok_Parser_inputHere, by decide, by decide +kernel⟩ rfl w_72 w_73 w_74 (by decide) rfl rfl rfl (Nat.le_of_ble_eq_true rfl) fun x8 => ?_
  refine zG_run t_Parser [(.istore_n 3, 0, 0), (.iload_n 3, 0, 0), (.iconst (-1), 0, 0)] (82, [some (zr (some (5, 1))), some (zi v1), some (zi v2), some (zi x8.1)], [zi (-1), zi x8.1], x8.2) (by decide +kernel) rfl ?_
  refine zG_icmp (op := .ne) (off := 5) (tgt := 87) (by decide +kernel) rfl Iff.rfl (fun c14 => ?_) (fun c14 => ?_)
  · refine zG_run t_Parser [(.aload_n 0, 0, 0), (.getfield 21, 5, 1)] (91, [some (zr (some (5, 1))), some (zi v1), some (zi v2), some (zi x8.1)], [zr (x8.2.2.2.1 1 1)], x8.2) (by decide +kernel) rfl ?_
    refine zG_dyn fun w9 _ => ?_
    refine zG_run t_Parser [(.getfield 127, 3, 12), (.iload_n 3, 0, 0)] (95, [some (zr (some (5, 1))), some (zi v1), some (zi v2), some (zi x8.1)], [zi x8.1, zr (some (27, (w9 + 28)))], x8.2) (by decide +kernel) rfl ?_
    refine zG_ald (v := zi (x8.2.1 (w9 + 28) x8.1.toNatClampNeg)) (n := 6) rfl (by decide +kernel) rfl rfl fun hb10 => ?_
    refine zG_run t_Parser [(.iconst (-1), 0, 0)] (97, [some (zr (some (5, 1))), some (zi v1), some (zi v2), some (zi x8.1)], [zi (-1), zi (x8.2.1 (w9 + 28) x8.1.toNatClampNeg)], x8.2) (by decide +kernel) rfl ?_
    refine zG_icmp (op := .eq) (off := 9) (tgt := 106) (by decide +kernel) rfl Iff.rfl (fun c13 => ?_) (fun c13 => ?_)
    · refine zG_run t_Parser [(.aload_n 0, 0, 0), (.getfield 21, 5, 1)] (110, [some (zr (some (5, 1))), some (zi v1), some (zi v2), some (zi x8.1)], [zr (x8.2.2.2.1 1 1)], x8.2) (by decide +kernel) rfl ?_
      refine zG_dyn fun w11 _ => ?_
      refine zG_run t_Parser [(.iload_n 1, 0, 0), (.iload_n 3, 0, 0)] (112, [some (zr (some (5, 1))), some (zi v1), some (zi v2), some (zi x8.1)], [zi x8.1, zi v1, zr (some (3, w11))], x8.2) (by decide +kernel) rfl ?_
      refine zG_callV (idx := 130) (R := (fun a => (none, a))) (as := [zi v1, zi x8.1]) (rest := []) (n := 2) (fun a ha => c_Net_addCell hl ha) (by decide +kernel) ⟨ok_Net_addCell, by decide, by decide +kernel⟩ rfl w_75 w_76 w_77 (by decide) rfl rfl rfl (Nat.le_of_ble_eq_true rfl) fun x12 => ?_
      refine zG_run t_Parser [(.iinc 2 1, 0, 0), (.goto (-74), 0, 0)] (44, [some (zr (some (5, 1))), some (zi v1), some (zi (v2 + 1)), some (zi x8.1)], [], x12) (by decide +kernel) rfl ?_
      exact zG_end (L' := [some (zr (some (5, 1))), some (zi v1), some (zi (v2 + 1)), none]) rfl (And.intro rfl (And.intro rfl (And.intro rfl trivial)))
    · exact zG_end (L' := [some (zr (some (5, 1))), none, none, none]) rfl (And.intro rfl trivial)
  · exact zG_end (L' := [none, none, none, none]) rfl (trivial)
set_option maxRecDepth 20000 in
theorem k_Parser_readChain_b44 {l : Launch} {X : zX} (hl : l.stackTraces = false) {h : zH} {v1 : Int32} {v2 : Int32} : zGl l m_Parser_readChain X 0 0 (f_Parser_readChain_b44 h v1 v2) (44, [some (zr (some (5, 1))), some (zi v1), some (zi v2), none], [], h) (Sum.elim (fun s : Int32 × zH => .inl (44, [some (zr (some (5, 1))), some (zi v1), some (zi s.1), none], [], s.2)) (Sum.elim (fun y : zH => .inl (73, [none, none, none, none], [], y)) (Sum.elim (fun y : zH => .inl (85, [none, none, none, none], [], y)) (Sum.elim (fun y : zH => .inl (100, [some (zr (some (5, 1))), none, none, none], [], y)) (fun y : zH => .inl (121, [some (zr (some (5, 1))), none, none, none], [], y)))))) := by
  unfold f_Parser_readChain_b44
  refine zG_run t_Parser [(.iload_n 2, 0, 0), (.sipush 900, 0, 0)] (48, [some (zr (some (5, 1))), some (zi v1), some (zi v2), none], [zi 900, zi v2], h) (by decide +kernel) rfl ?_
  refine zG_icmp (op := .ge) (off := 73) (tgt := 121) (by decide +kernel) rfl Iff.rfl (fun c17 => ?_) (fun c17 => ?_)
  · exact zG_end (L' := [some (zr (some (5, 1))), none, none, none]) rfl (And.intro rfl trivial)
  · refine zG_run t_Parser [(.aload_n 0, 0, 0), (.getfield 12, 5, 0)] (55, [some (zr (some (5, 1))), some (zi v1), some (zi v2), none], [zr (some (9, 2))], h) (by decide +kernel) rfl ?_
    refine zG_callV (idx := 39) (R := (fun a => (none, a))) (as := []) (rest := []) (n := 0) (fun a ha => c_Tape_advance hl ha) (by decide +kernel) ⟨ok_Tape_advance, by decide, by decide +kernel⟩ rfl w_28 w_29 w_30 (by decide) rfl rfl rfl (Nat.le_of_ble_eq_true rfl) fun x7 => ?_
    refine zG_run t_Parser [(.iload_n 2, 0, 0)] (59, [some (zr (some (5, 1))), some (zi v1), some (zi v2), none], [zi v2], x7) (by decide +kernel) rfl ?_
    refine zG_if (op := .le) (off := 16) (tgt := 75) (by decide +kernel) rfl Iff.rfl (fun c16 => ?_) (fun c16 => ?_)
    · exact zG_forget (L' := [some (zr (some (5, 1))), some (zi v1), some (zi v2), none]) (And.intro rfl (And.intro rfl (And.intro rfl trivial))) (k_Parser_readChain_j75 hl)
    · refine zG_run t_Parser [(.aload_n 0, 0, 0), (.getfield 12, 5, 0), (.getfield 42, 9, 4), (.iconst 3, 0, 0)] (70, [some (zr (some (5, 1))), some (zi v1), some (zi v2), none], [zi 3, zi (x7.1 2 4)], x7) (by decide +kernel) rfl ?_
      refine zG_icmp (op := .ne) (off := 5) (tgt := 75) (by decide +kernel) rfl Iff.rfl (fun c15 => ?_) (fun c15 => ?_)
      · exact zG_forget (L' := [some (zr (some (5, 1))), some (zi v1), some (zi v2), none]) (And.intro rfl (And.intro rfl (And.intro rfl trivial))) (k_Parser_readChain_j75 hl)
      · exact zG_end (L' := [none, none, none, none]) rfl (trivial)
set_option maxRecDepth 20000 in
theorem k_Parser_readChain {l : Launch} {X : zX} (hl : l.stackTraces = false) {h : zH} : zGl l m_Parser_readChain X 0 0 (f_Parser_readChain h) (0, [some (zr (some (5, 1))), none, none, none], [], h) (fun x => .inr ((fun a => (.inl (some (zi a.1)), a.2) : Int32 × zH → zF) x)) := by
  unfold f_Parser_readChain
  refine zG_run t_Parser [(.aload_n 0, 0, 0), (.getfield 21, 5, 1)] (4, [some (zr (some (5, 1))), none, none, none], [zr (h.2.2.1 1 1)], h) (by decide +kernel) rfl ?_
  refine zG_dyn fun w1 _ => ?_
  refine zG_run t_Parser [(.getfield 117, 3, 2), (.istore_n 1, 0, 0), (.iload_n 1, 0, 0), (.iconst 3, 0, 0)] (10, [some (zr (some (5, 1))), some (zi (h.1 w1 2)), none, none], [zi 3, zi (h.1 w1 2)], h) (by decide +kernel) rfl ?_
  refine zG_icmp (op := .lt) (off := 9) (tgt := 19) (by decide +kernel) rfl Iff.rfl (fun c29 => ?_) (fun c29 => ?_)
  · refine zG_run t_Parser [(.aload_n 0, 0, 0), (.getfield 21, 5, 1)] (23, [some (zr (some (5, 1))), some (zi (h.1 w1 2)), none, none], [zr (h.2.2.1 1 1)], h) (by decide +kernel) rfl ?_
    refine zG_dyn fun w2 _ => ?_
    refine zG_run t_Parser [(.getfield 120, 3, 15), (.iload_n 1, 0, 0), (.iconst 0, 0, 0)] (28, [some (zr (some (5, 1))), some (zi (h.1 w1 2)), none, none], [zi 0, zi (h.1 w1 2), zr (some (31, (w2 + 34)))], h) (by decide +kernel) rfl ?_
    refine zG_guard fun hb4 => ?_
    refine zG_bind (fun y => (29, [some (zr (some (5, 1))), some (zi (h.1 w1 2)), none, none], [], y)) (zG_astc (h' := zsI h (w2 + 34) (h.1 w1 2).toNatClampNeg 0) rfl (by decide +kernel) hb4 rfl (zG_end (L' := [some (zr (some (5, 1))), some (zi (h.1 w1 2)), none, none]) rfl (And.intro rfl (And.intro rfl trivial)))) fun h3 => ?_
    refine zG_run t_Parser [(.aload_n 0, 0, 0), (.getfield 21, 5, 1)] (33, [some (zr (some (5, 1))), some (zi (h.1 w1 2)), none, none], [zr (h3.2.2.1 1 1)], h3) (by decide +kernel) rfl ?_
    refine zG_dyn fun w5 _ => ?_
    refine zG_bind (fun y => (42, [some (zr (some (5, 1))), some (zi (h.1 w1 2)), none, none], [], y)) (zG_run t_Parser [(.dup, 0, 0), (.getfield 117, 3, 2), (.iconst 1, 0, 0), (.iadd, 0, 0), (.putfield 117, 3, 2)] (42, [some (zr (some (5, 1))), some (zi (h.1 w1 2)), none, none], [], zsI h3 w5 2 ((h3.1 w5 2) + 1)) (by decide +kernel) rfl (zG_end (L' := [some (zr (some (5, 1))), some (zi (h.1 w1 2)), none, none]) rfl (And.intro rfl (And.intro rfl trivial)))) fun h6 => ?_
    refine zG_run t_Parser [(.iconst 0, 0, 0), (.istore_n 2, 0, 0)] (44, [some (zr (some (5, 1))), some (zi (h.1 w1 2)), some (zi 0), none], [], h6) (by decide +kernel) rfl ?_
    refine zG_forget (L' := [some (zr (some (5, 1))), some (zi (h.1 w1 2)), some (zi 0), none]) (And.intro rfl (And.intro rfl (And.intro rfl trivial))) ?_
    refine zG_bind4 (fun y : zH => (73, [none, none, none, none], [], y)) (fun y : zH => (85, [none, none, none, none], [], y)) (fun y : zH => (100, [some (zr (some (5, 1))), none, none, none], [], y)) (fun y : zH => (121, [some (zr (some (5, 1))), none, none, none], [], y)) (zG_iter (fun s : Int32 × zH => (44, [some (zr (some (5, 1))), some (zi (h.1 w1 2)), some (zi s.1), none], [], s.2)) fun s => k_Parser_readChain_b44 hl) (fun y19 => ?_) (fun y20 => ?_) (fun y21 => ?_) (fun y24 => ?_)
    · refine zG_run t_Parser [(.iconst 1, 0, 0)] (74, [none, none, none, none], [zi 1], y19) (by decide +kernel) rfl ?_
      exact zG_ret (r := some (zi 1)) rfl (zrd_z rfl (by decide +kernel) rfl)
    · refine zG_run t_Parser [(.iconst 0, 0, 0)] (86, [none, none, none, none], [zi 0], y20) (by decide +kernel) rfl ?_
      exact zG_ret (r := some (zi 0)) rfl (zrd_z rfl (by decide +kernel) rfl)
    · refine zG_run t_Parser [(.aload_n 0, 0, 0), (.iconst 5, 0, 0)] (102, [some (zr (some (5, 1))), none, none, none], [zi 5, zr (some (5, 1))], y21) (by decide +kernel) rfl ?_
      refine zG_callV (idx := 71) (R := (fun a => (some (zi a.1), a.2))) (as := [zi 5]) (rest := []) (n := 1) (fun a ha => c_Parser_refuse hl ha) (by decide +kernel) ⟨ok_Parser_refuse, by decide, by decide +kernel⟩ rfl w_40 w_41 w_42 (by decide) rfl rfl rfl (Nat.le_of_ble_eq_true rfl) fun x22 => ?_
      refine zG_guard fun hb23 => ?_
      exact zG_ret (r := some (zi x22.1)) rfl (zrd_z rfl (by decide +kernel) hb23)
    · refine zG_run t_Parser [(.aload_n 0, 0, 0), (.iconst 1, 0, 0)] (123, [some (zr (some (5, 1))), none, none, none], [zi 1, zr (some (5, 1))], y24) (by decide +kernel) rfl ?_
      refine zG_callV (idx := 71) (R := (fun a => (some (zi a.1), a.2))) (as := [zi 1]) (rest := []) (n := 1) (fun a ha => c_Parser_refuse hl ha) (by decide +kernel) ⟨ok_Parser_refuse, by decide, by decide +kernel⟩ rfl w_40 w_41 w_42 (by decide) rfl rfl rfl (Nat.le_of_ble_eq_true rfl) fun x25 => ?_
      refine zG_guard fun hb26 => ?_
      exact zG_ret (r := some (zi x25.1)) rfl (zrd_z rfl (by decide +kernel) hb26)
  · refine zG_run t_Parser [(.aload_n 0, 0, 0), (.iconst 2, 0, 0)] (15, [some (zr (some (5, 1))), some (zi (h.1 w1 2)), none, none], [zi 2, zr (some (5, 1))], h) (by decide +kernel) rfl ?_
    refine zG_callV (idx := 71) (R := (fun a => (some (zi a.1), a.2))) (as := [zi 2]) (rest := []) (n := 1) (fun a ha => c_Parser_refuse hl ha) (by decide +kernel) ⟨ok_Parser_refuse, by decide, by decide +kernel⟩ rfl w_40 w_41 w_42 (by decide) rfl rfl rfl (Nat.le_of_ble_eq_true rfl) fun x27 => ?_
    refine zG_guard fun hb28 => ?_
    exact zG_ret (r := some (zi x27.1)) rfl (zrd_z rfl (by decide +kernel) hb28)
theorem c_Parser_readChain {l : Launch} {X : zX} (hl : l.stackTraces = false) {h : zH} {x : Int32 × zH} (hx : f_Parser_readChain h = some x) : zCt l (true, 2) 2 m_Parser_readChain X 0 0 [zr (some (5, 1))] h ((fun a => (.inl (some (zi a.1)), a.2) : Int32 × zH → zF) x) :=
  zG_ct (R := fun a => (.inl (some (zi a.1)), a.2)) (x := x) ok_Parser_readChain hl (Nat.le_of_ble_eq_true rfl) hx (k_Parser_readChain hl)
def m_Parser_isClosed : zM := (({ cls := "ScanPacker$Parser", name := "isClosed", desc := "()Z" } : Jvm.MethodName), prog_6_method_13_code, 1, (Option.some Jvm.ClassFile.FieldType.boolean), [], 4)
theorem ok_Parser_isClosed : zMok m_Parser_isClosed := ⟨by decide +kernel, zW_of 1057 (by decide +kernel) (by decide +kernel), zW_of 123 (by decide +kernel) (by decide +kernel), by decide, by decide +kernel, by decide +kernel⟩
set_option maxRecDepth 20000 in
theorem k_Parser_isClosed {l : Launch} {X : zX} (hl : l.stackTraces = false) {h : zH} : zGl l m_Parser_isClosed X 0 0 (f_Parser_isClosed h) (0, [some (zr (some (5, 1)))], [], h) (fun x => .inr ((fun a => (.inl (some (zi a.1)), a.2) : Int32 × zH → zF) x)) := by
  unfold f_Parser_isClosed
  refine zG_run t_Parser [(.aload_n 0, 0, 0), (.getfield 12, 5, 0)] (4, [some (zr (some (5, 1)))], [zr (some (9, 2))], h) (by decide +kernel) rfl ?_
  refine zG_callV (idx := 39) (R := (fun a => (none, a))) (as := []) (rest := []) (n := 0) (fun a ha => c_Tape_advance hl ha) (by decide +kernel) ⟨ok_Tape_advance, by decide, by decide +kernel⟩ rfl w_28 w_29 w_30 (by decide) rfl rfl rfl (Nat.le_of_ble_eq_true rfl) fun x1 => ?_
  refine zG_run t_Parser [(.aload_n 0, 0, 0), (.getfield 12, 5, 0), (.getfield 42, 9, 4), (.iconst 3, 0, 0)] (15, [some (zr (some (5, 1)))], [zi 3, zi (x1.1 2 4)], x1) (by decide +kernel) rfl ?_
  refine zG_icmp (op := .eq) (off := 11) (tgt := 26) (by decide +kernel) rfl Iff.rfl (fun c4 => ?_) (fun c4 => ?_)
  · refine zG_run t_Parser [(.iconst 1, 0, 0), (.goto 4, 0, 0)] (31, [some (zr (some (5, 1)))], [zi 1], x1) (by decide +kernel) rfl ?_
    exact zG_ret (r := some (zi 1)) rfl (zrd_z rfl (by decide +kernel) rfl)
  · refine zG_run t_Parser [(.aload_n 0, 0, 0), (.iconst 1, 0, 0)] (20, [some (zr (some (5, 1)))], [zi 1, zr (some (5, 1))], x1) (by decide +kernel) rfl ?_
    refine zG_callV (idx := 71) (R := (fun a => (some (zi a.1), a.2))) (as := [zi 1]) (rest := []) (n := 1) (fun a ha => c_Parser_refuse hl ha) (by decide +kernel) ⟨ok_Parser_refuse, by decide, by decide +kernel⟩ rfl w_40 w_41 w_42 (by decide) rfl rfl rfl (Nat.le_of_ble_eq_true rfl) fun x2 => ?_
    refine zG_if (op := .eq) (off := 7) (tgt := 30) (by decide +kernel) rfl Iff.rfl (fun c3 => ?_) (fun c3 => ?_)
    · refine zG_run t_Parser [(.iconst 0, 0, 0)] (31, [some (zr (some (5, 1)))], [zi 0], x2.2) (by decide +kernel) rfl ?_
      exact zG_ret (r := some (zi 0)) rfl (zrd_z rfl (by decide +kernel) rfl)
    · refine zG_run t_Parser [(.iconst 1, 0, 0), (.goto 4, 0, 0)] (31, [some (zr (some (5, 1)))], [zi 1], x2.2) (by decide +kernel) rfl ?_
      exact zG_ret (r := some (zi 1)) rfl (zrd_z rfl (by decide +kernel) rfl)
theorem c_Parser_isClosed {l : Launch} {X : zX} (hl : l.stackTraces = false) {h : zH} {x : Int32 × zH} (hx : f_Parser_isClosed h = some x) : zCt l (true, 2) 2 m_Parser_isClosed X 0 0 [zr (some (5, 1))] h ((fun a => (.inl (some (zi a.1)), a.2) : Int32 × zH → zF) x) :=
  zG_ct (R := fun a => (.inl (some (zi a.1)), a.2)) (x := x) ok_Parser_isClosed hl (Nat.le_of_ble_eq_true rfl) hx (k_Parser_isClosed hl)
def m_Parser_readTake : zM := (({ cls := "ScanPacker$Parser", name := "readTake", desc := "()Z" } : Jvm.MethodName), prog_6_method_11_code, 3, (Option.some Jvm.ClassFile.FieldType.boolean), [], 5)
theorem ok_Parser_readTake : zMok m_Parser_readTake := ⟨by decide +kernel, zW_of 1053 (by decide +kernel) (by decide +kernel), zW_of 123 (by decide +kernel) (by decide +kernel), by decide, by decide +kernel, by decide +kernel⟩
set_option maxRecDepth 20000 in
theorem k_Parser_readTake {l : Launch} {X : zX} (hl : l.stackTraces = false) {h : zH} : zGl l m_Parser_readTake X 0 0 (f_Parser_readTake h) (0, [some (zr (some (5, 1))), none, none], [], h) (fun x => .inr ((fun a => (.inl (some (zi a.1)), a.2) : Int32 × zH → zF) x)) := by
  unfold f_Parser_readTake
  refine zG_run t_Parser [(.aload_n 0, 0, 0), (.getfield 12, 5, 0)] (4, [some (zr (some (5, 1))), none, none], [zr (some (9, 2))], h) (by decide +kernel) rfl ?_
  refine zG_callV (idx := 39) (R := (fun a => (none, a))) (as := []) (rest := []) (n := 0) (fun a ha => c_Tape_advance hl ha) (by decide +kernel) ⟨ok_Tape_advance, by decide, by decide +kernel⟩ rfl w_28 w_29 w_30 (by decide) rfl rfl rfl (Nat.le_of_ble_eq_true rfl) fun x1 => ?_
  refine zG_run t_Parser [(.aload_n 0, 0, 0)] (8, [some (zr (some (5, 1))), none, none], [zr (some (5, 1))], x1) (by decide +kernel) rfl ?_
  refine zG_callV (idx := 124) (R := (fun a => (some (zi a.1), a.2))) (as := []) (rest := []) (n := 0) (fun a ha => c_Parser_inputHere hl ha) (by decide +kernel) ⟨ok_Parser_inputHere, by decide, by decide +kernel⟩ rfl w_72 w_73 w_74 (by decide) rfl rfl rfl (Nat.le_of_ble_eq_true rfl) fun x2 => ?_
  refine zG_run t_Parser [(.istore_n 1, 0, 0), (.iload_n 1, 0, 0), (.iconst (-1), 0, 0)] (14, [some (zr (some (5, 1))), some (zi x2.1), none], [zi (-1), zi x2.1], x2.2) (by decide +kernel) rfl ?_
  refine zG_icmp (op := .ne) (off := 5) (tgt := 19) (by decide +kernel) rfl Iff.rfl (fun c23 => ?_) (fun c23 => ?_)
  · refine zG_run t_Parser [(.aload_n 0, 0, 0), (.getfield 21, 5, 1)] (23, [some (zr (some (5, 1))), some (zi x2.1), none], [zr (x2.2.2.2.1 1 1)], x2.2) (by decide +kernel) rfl ?_
    refine zG_dyn fun w3 _ => ?_
    refine zG_run t_Parser [(.getfield 127, 3, 12), (.iload_n 1, 0, 0)] (27, [some (zr (some (5, 1))), some (zi x2.1), none], [zi x2.1, zr (some (27, (w3 + 28)))], x2.2) (by decide +kernel) rfl ?_
    refine zG_ald (v := zi (x2.2.1 (w3 + 28) x2.1.toNatClampNeg)) (n := 6) rfl (by decide +kernel) rfl rfl fun hb4 => ?_
    refine zG_run t_Parser [(.iconst (-1), 0, 0)] (29, [some (zr (some (5, 1))), some (zi x2.1), none], [zi (-1), zi (x2.2.1 (w3 + 28) x2.1.toNatClampNeg)], x2.2) (by decide +kernel) rfl ?_
    refine zG_icmp (op := .ne) (off := 9) (tgt := 38) (by decide +kernel) rfl Iff.rfl (fun c22 => ?_) (fun c22 => ?_)
    · refine zG_run t_Parser [(.aload_n 0, 0, 0), (.getfield 21, 5, 1)] (42, [some (zr (some (5, 1))), some (zi x2.1), none], [zr (x2.2.2.2.1 1 1)], x2.2) (by decide +kernel) rfl ?_
      refine zG_dyn fun w5 _ => ?_
      refine zG_run t_Parser [(.getfield 133, 3, 13), (.iload_n 1, 0, 0)] (46, [some (zr (some (5, 1))), some (zi x2.1), none], [zi x2.1, zr (some (28, (w5 + 29)))], x2.2) (by decide +kernel) rfl ?_
      refine zG_ald (v := zi (x2.2.1 (w5 + 29) x2.1.toNatClampNeg)) (n := 6) rfl (by decide +kernel) rfl rfl fun hb6 => ?_
      refine zG_run t_Parser [(.iconst (-1), 0, 0)] (48, [some (zr (some (5, 1))), some (zi x2.1), none], [zi (-1), zi (x2.2.1 (w5 + 29) x2.1.toNatClampNeg)], x2.2) (by decide +kernel) rfl ?_
      refine zG_icmp (op := .eq) (off := 9) (tgt := 57) (by decide +kernel) rfl Iff.rfl (fun c19 => ?_) (fun c19 => ?_)
      · refine zG_run t_Parser [(.aload_n 0, 0, 0), (.getfield 12, 5, 0)] (61, [some (zr (some (5, 1))), some (zi x2.1), none], [zr (some (9, 2))], x2.2) (by decide +kernel) rfl ?_
        refine zG_callV (idx := 39) (R := (fun a => (none, a))) (as := []) (rest := []) (n := 0) (fun a ha => c_Tape_advance hl ha) (by decide +kernel) ⟨ok_Tape_advance, by decide, by decide +kernel⟩ rfl w_28 w_29 w_30 (by decide) rfl rfl rfl (Nat.le_of_ble_eq_true rfl) fun x7 => ?_
        refine zG_run t_Parser [(.aload_n 0, 0, 0)] (65, [some (zr (some (5, 1))), some (zi x2.1), none], [zr (some (5, 1))], x7) (by decide +kernel) rfl ?_
        refine zG_callV (idx := 103) (R := (fun a => (some (zi a.1), a.2))) (as := []) (rest := []) (n := 0) (fun a ha => c_Parser_lineHere hl ha) (by decide +kernel) ⟨ok_Parser_lineHere, by decide, by decide +kernel⟩ rfl w_49 w_50 w_51 (by decide) rfl rfl rfl (Nat.le_of_ble_eq_true rfl) fun x8 => ?_
        refine zG_run t_Parser [(.istore_n 2, 0, 0), (.iload_n 2, 0, 0), (.iconst (-1), 0, 0)] (71, [some (zr (some (5, 1))), some (zi x2.1), some (zi x8.1)], [zi (-1), zi x8.1], x8.2) (by decide +kernel) rfl ?_
        refine zG_icmp (op := .ne) (off := 5) (tgt := 76) (by decide +kernel) rfl Iff.rfl (fun c16 => ?_) (fun c16 => ?_)
        · refine zG_run t_Parser [(.aload_n 0, 0, 0), (.getfield 21, 5, 1)] (80, [some (zr (some (5, 1))), some (zi x2.1), some (zi x8.1)], [zr (x8.2.2.2.1 1 1)], x8.2) (by decide +kernel) rfl ?_
          refine zG_dyn fun w9 _ => ?_
          refine zG_run t_Parser [(.getfield 133, 3, 13), (.iload_n 1, 0, 0), (.iload_n 2, 0, 0)] (85, [some (zr (some (5, 1))), some (zi x2.1), some (zi x8.1)], [zi x8.1, zi x2.1, zr (some (28, (w9 + 29)))], x8.2) (by decide +kernel) rfl ?_
          refine zG_guard fun hb11 => ?_
          refine zG_bind (fun y => (86, [some (zr (some (5, 1))), some (zi x2.1), some (zi x8.1)], [], y)) (zG_astc (h' := zsI x8.2 (w9 + 29) x2.1.toNatClampNeg x8.1) rfl (by decide +kernel) hb11 rfl (zG_end (L' := [some (zr (some (5, 1))), some (zi x2.1), some (zi x8.1)]) rfl (And.intro rfl (And.intro rfl (And.intro rfl trivial))))) fun h10 => ?_
          refine zG_run t_Parser [(.aload_n 0, 0, 0), (.getfield 21, 5, 1)] (90, [some (zr (some (5, 1))), some (zi x2.1), some (zi x8.1)], [zr (h10.2.2.1 1 1)], h10) (by decide +kernel) rfl ?_
          refine zG_dyn fun w12 _ => ?_
          refine zG_bind (fun y => (101, [some (zr (some (5, 1))), some (zi x2.1), some (zi x8.1)], [], y)) (zG_run t_Parser [(.dup, 0, 0), (.getfield 136, 3, 6), (.iconst 1, 0, 0), (.iload_n 2, 0, 0), (.ishl, 0, 0), (.ior, 0, 0), (.putfield 136, 3, 6)] (101, [some (zr (some (5, 1))), some (zi x2.1), some (zi x8.1)], [], zsI h10 w12 6 ((h10.1 w12 6) ||| (zshl 1 x8.1))) (by decide +kernel) rfl (zG_end (L' := [some (zr (some (5, 1))), some (zi x2.1), some (zi x8.1)]) rfl (And.intro rfl (And.intro rfl (And.intro rfl trivial))))) fun h13 => ?_
          refine zG_run t_Parser [(.aload_n 0, 0, 0)] (102, [some (zr (some (5, 1))), some (zi x2.1), some (zi x8.1)], [zr (some (5, 1))], h13) (by decide +kernel) rfl ?_
          refine zG_callV (idx := 139) (R := (fun a => (some (zi a.1), a.2))) (as := []) (rest := []) (n := 0) (fun a ha => c_Parser_isClosed hl ha) (by decide +kernel) ⟨ok_Parser_isClosed, by decide, by decide +kernel⟩ rfl w_81 w_82 w_83 (by decide) rfl rfl rfl (Nat.le_of_ble_eq_true rfl) fun x14 => ?_
          refine zG_guard fun hb15 => ?_
          exact zG_ret (r := some (zi x14.1)) rfl (zrd_z rfl (by decide +kernel) hb15)
        · refine zG_run t_Parser [(.iconst 0, 0, 0)] (75, [some (zr (some (5, 1))), some (zi x2.1), some (zi x8.1)], [zi 0], x8.2) (by decide +kernel) rfl ?_
          exact zG_ret (r := some (zi 0)) rfl (zrd_z rfl (by decide +kernel) rfl)
      · refine zG_run t_Parser [(.aload_n 0, 0, 0), (.iconst 5, 0, 0)] (53, [some (zr (some (5, 1))), some (zi x2.1), none], [zi 5, zr (some (5, 1))], x2.2) (by decide +kernel) rfl ?_
        refine zG_callV (idx := 71) (R := (fun a => (some (zi a.1), a.2))) (as := [zi 5]) (rest := []) (n := 1) (fun a ha => c_Parser_refuse hl ha) (by decide +kernel) ⟨ok_Parser_refuse, by decide, by decide +kernel⟩ rfl w_40 w_41 w_42 (by decide) rfl rfl rfl (Nat.le_of_ble_eq_true rfl) fun x17 => ?_
        refine zG_guard fun hb18 => ?_
        exact zG_ret (r := some (zi x17.1)) rfl (zrd_z rfl (by decide +kernel) hb18)
    · refine zG_run t_Parser [(.aload_n 0, 0, 0), (.iconst 3, 0, 0)] (34, [some (zr (some (5, 1))), some (zi x2.1), none], [zi 3, zr (some (5, 1))], x2.2) (by decide +kernel) rfl ?_
      refine zG_callV (idx := 71) (R := (fun a => (some (zi a.1), a.2))) (as := [zi 3]) (rest := []) (n := 1) (fun a ha => c_Parser_refuse hl ha) (by decide +kernel) ⟨ok_Parser_refuse, by decide, by decide +kernel⟩ rfl w_40 w_41 w_42 (by decide) rfl rfl rfl (Nat.le_of_ble_eq_true rfl) fun x20 => ?_
      refine zG_guard fun hb21 => ?_
      exact zG_ret (r := some (zi x20.1)) rfl (zrd_z rfl (by decide +kernel) hb21)
  · refine zG_run t_Parser [(.iconst 0, 0, 0)] (18, [some (zr (some (5, 1))), some (zi x2.1), none], [zi 0], x2.2) (by decide +kernel) rfl ?_
    exact zG_ret (r := some (zi 0)) rfl (zrd_z rfl (by decide +kernel) rfl)
theorem c_Parser_readTake {l : Launch} {X : zX} (hl : l.stackTraces = false) {h : zH} {x : Int32 × zH} (hx : f_Parser_readTake h = some x) : zCt l (true, 2) 2 m_Parser_readTake X 0 0 [zr (some (5, 1))] h ((fun a => (.inl (some (zi a.1)), a.2) : Int32 × zH → zF) x) :=
  zG_ct (R := fun a => (.inl (some (zi a.1)), a.2)) (x := x) ok_Parser_readTake hl (Nat.le_of_ble_eq_true rfl) hx (k_Parser_readTake hl)
def m_Parser_readFill : zM := (({ cls := "ScanPacker$Parser", name := "readFill", desc := "()Z" } : Jvm.MethodName), prog_6_method_12_code, 1, (Option.some Jvm.ClassFile.FieldType.boolean), [], 5)
theorem ok_Parser_readFill : zMok m_Parser_readFill := ⟨by decide +kernel, zW_of 1061 (by decide +kernel) (by decide +kernel), zW_of 123 (by decide +kernel) (by decide +kernel), by decide, by decide +kernel, by decide +kernel⟩
set_option maxRecDepth 20000 in
theorem k_Parser_readFill_j62 {l : Launch} {X : zX} (hl : l.stackTraces = false) {h : zH} : zGl l m_Parser_readFill X 0 0 (f_Parser_readFill_j62 h) (62, [some (zr (some (5, 1)))], [], h) (fun x => .inr ((fun a => (.inl (some (zi a.1)), a.2) : Int32 × zH → zF) x)) := by
  unfold f_Parser_readFill_j62
  refine zG_run t_Parser [(.aload_n 0, 0, 0), (.iconst 2, 0, 0)] (64, [some (zr (some (5, 1)))], [zi 2, zr (some (5, 1))], h) (by decide +kernel) rfl ?_
  refine zG_callV (idx := 71) (R := (fun a => (some (zi a.1), a.2))) (as := [zi 2]) (rest := []) (n := 1) (fun a ha => c_Parser_refuse hl ha) (by decide +kernel) ⟨ok_Parser_refuse, by decide, by decide +kernel⟩ rfl w_40 w_41 w_42 (by decide) rfl rfl rfl (Nat.le_of_ble_eq_true rfl) fun x3 => ?_
  refine zG_guard fun hb4 => ?_
  exact zG_ret (r := some (zi x3.1)) rfl (zrd_z rfl (by decide +kernel) hb4)
set_option maxRecDepth 20000 in
theorem k_Parser_readFill {l : Launch} {X : zX} (hl : l.stackTraces = false) {h : zH} : zGl l m_Parser_readFill X 0 0 (f_Parser_readFill h) (0, [some (zr (some (5, 1)))], [], h) (fun x => .inr ((fun a => (.inl (some (zi a.1)), a.2) : Int32 × zH → zF) x)) := by
  unfold f_Parser_readFill
  refine zG_run t_Parser [(.aload_n 0, 0, 0), (.getfield 21, 5, 1)] (4, [some (zr (some (5, 1)))], [zr (h.2.2.1 1 1)], h) (by decide +kernel) rfl ?_
  refine zG_dyn fun w1 _ => ?_
  refine zG_run t_Parser [(.getfield 142, 3, 4)] (7, [some (zr (some (5, 1)))], [zi (h.1 w1 4)], h) (by decide +kernel) rfl ?_
  refine zG_if (op := .eq) (off := 9) (tgt := 16) (by decide +kernel) rfl Iff.rfl (fun c18 => ?_) (fun c18 => ?_)
  · refine zG_run t_Parser [(.aload_n 0, 0, 0), (.getfield 12, 5, 0)] (20, [some (zr (some (5, 1)))], [zr (some (9, 2))], h) (by decide +kernel) rfl ?_
    refine zG_callV (idx := 39) (R := (fun a => (none, a))) (as := []) (rest := []) (n := 0) (fun a ha => c_Tape_advance hl ha) (by decide +kernel) ⟨ok_Tape_advance, by decide, by decide +kernel⟩ rfl w_28 w_29 w_30 (by decide) rfl rfl rfl (Nat.le_of_ble_eq_true rfl) fun x2 => ?_
    refine zG_run t_Parser [(.aload_n 0, 0, 0), (.getfield 12, 5, 0), (.getfield 42, 9, 4), (.iconst 2, 0, 0)] (31, [some (zr (some (5, 1)))], [zi 2, zi (x2.1 2 4)], x2) (by decide +kernel) rfl ?_
    refine zG_icmp (op := .eq) (off := 9) (tgt := 40) (by decide +kernel) rfl Iff.rfl (fun c15 => ?_) (fun c15 => ?_)
    · refine zG_run t_Parser [(.aload_n 0, 0, 0), (.getfield 12, 5, 0), (.getfield 88, 9, 6), (.iconst 1, 0, 0)] (48, [some (zr (some (5, 1)))], [zi 1, zi (x2.1 2 6)], x2) (by decide +kernel) rfl ?_
      refine zG_icmp (op := .gt) (off := 14) (tgt := 62) (by decide +kernel) rfl Iff.rfl (fun c12 => ?_) (fun c12 => ?_)
      · exact zG_forget (L' := [some (zr (some (5, 1)))]) (And.intro rfl trivial) (k_Parser_readFill_j62 hl)
      · refine zG_run t_Parser [(.aload_n 0, 0, 0), (.getfield 12, 5, 0), (.getfield 85, 9, 7), (.iconst 2, 0, 0)] (59, [some (zr (some (5, 1)))], [zi 2, zi (x2.1 2 7)], x2) (by decide +kernel) rfl ?_
        refine zG_icmp (op := .le) (off := 9) (tgt := 68) (by decide +kernel) rfl Iff.rfl (fun c11 => ?_) (fun c11 => ?_)
        · refine zG_run t_Parser [(.aload_n 0, 0, 0), (.getfield 21, 5, 1)] (72, [some (zr (some (5, 1)))], [zr (x2.2.2.1 1 1)], x2) (by decide +kernel) rfl ?_
          refine zG_dyn fun w5 _ => ?_
          refine zG_bind (fun y => (76, [some (zr (some (5, 1)))], [], y)) (zG_run t_Parser [(.iconst 1, 0, 0), (.putfield 142, 3, 4)] (76, [some (zr (some (5, 1)))], [], zsI x2 w5 4 1) (by decide +kernel) rfl (zG_end (L' := [some (zr (some (5, 1)))]) rfl (And.intro rfl trivial))) fun h6 => ?_
          refine zG_run t_Parser [(.aload_n 0, 0, 0), (.getfield 21, 5, 1)] (80, [some (zr (some (5, 1)))], [zr (h6.2.2.1 1 1)], h6) (by decide +kernel) rfl ?_
          refine zG_dyn fun w7 _ => ?_
          refine zG_bind (fun y => (90, [some (zr (some (5, 1)))], [], y)) (zG_run t_Parser [(.aload_n 0, 0, 0), (.getfield 12, 5, 0), (.getfield 85, 9, 7), (.putfield 146, 3, 3)] (90, [some (zr (some (5, 1)))], [], zsI h6 w7 3 (h6.1 2 7)) (by decide +kernel) rfl (zG_end (L' := [some (zr (some (5, 1)))]) rfl (And.intro rfl trivial))) fun h8 => ?_
          refine zG_run t_Parser [(.aload_n 0, 0, 0)] (91, [some (zr (some (5, 1)))], [zr (some (5, 1))], h8) (by decide +kernel) rfl ?_
          refine zG_callV (idx := 139) (R := (fun a => (some (zi a.1), a.2))) (as := []) (rest := []) (n := 0) (fun a ha => c_Parser_isClosed hl ha) (by decide +kernel) ⟨ok_Parser_isClosed, by decide, by decide +kernel⟩ rfl w_81 w_82 w_83 (by decide) rfl rfl rfl (Nat.le_of_ble_eq_true rfl) fun x9 => ?_
          refine zG_guard fun hb10 => ?_
          exact zG_ret (r := some (zi x9.1)) rfl (zrd_z rfl (by decide +kernel) hb10)
        · exact zG_forget (L' := [some (zr (some (5, 1)))]) (And.intro rfl trivial) (k_Parser_readFill_j62 hl)
    · refine zG_run t_Parser [(.aload_n 0, 0, 0), (.iconst 1, 0, 0)] (36, [some (zr (some (5, 1)))], [zi 1, zr (some (5, 1))], x2) (by decide +kernel) rfl ?_
      refine zG_callV (idx := 71) (R := (fun a => (some (zi a.1), a.2))) (as := [zi 1]) (rest := []) (n := 1) (fun a ha => c_Parser_refuse hl ha) (by decide +kernel) ⟨ok_Parser_refuse, by decide, by decide +kernel⟩ rfl w_40 w_41 w_42 (by decide) rfl rfl rfl (Nat.le_of_ble_eq_true rfl) fun x13 => ?_
      refine zG_guard fun hb14 => ?_
      exact zG_ret (r := some (zi x13.1)) rfl (zrd_z rfl (by decide +kernel) hb14)
  · refine zG_run t_Parser [(.aload_n 0, 0, 0), (.iconst 5, 0, 0)] (12, [some (zr (some (5, 1)))], [zi 5, zr (some (5, 1))], h) (by decide +kernel) rfl ?_
    refine zG_callV (idx := 71) (R := (fun a => (some (zi a.1), a.2))) (as := [zi 5]) (rest := []) (n := 1) (fun a ha => c_Parser_refuse hl ha) (by decide +kernel) ⟨ok_Parser_refuse, by decide, by decide +kernel⟩ rfl w_40 w_41 w_42 (by decide) rfl rfl rfl (Nat.le_of_ble_eq_true rfl) fun x16 => ?_
    refine zG_guard fun hb17 => ?_
    exact zG_ret (r := some (zi x16.1)) rfl (zrd_z rfl (by decide +kernel) hb17)
theorem c_Parser_readFill {l : Launch} {X : zX} (hl : l.stackTraces = false) {h : zH} {x : Int32 × zH} (hx : f_Parser_readFill h = some x) : zCt l (true, 2) 2 m_Parser_readFill X 0 0 [zr (some (5, 1))] h ((fun a => (.inl (some (zi a.1)), a.2) : Int32 × zH → zF) x) :=
  zG_ct (R := fun a => (.inl (some (zi a.1)), a.2)) (x := x) ok_Parser_readFill hl (Nat.le_of_ble_eq_true rfl) hx (k_Parser_readFill hl)
def m_Parser_readClause : zM := (({ cls := "ScanPacker$Parser", name := "readClause", desc := "()Z" } : Jvm.MethodName), prog_6_method_5_code, 1, (Option.some Jvm.ClassFile.FieldType.boolean), [], 6)
theorem ok_Parser_readClause : zMok m_Parser_readClause := ⟨by decide +kernel, zW_of 987 (by decide +kernel) (by decide +kernel), zW_of 123 (by decide +kernel) (by decide +kernel), by decide, by decide +kernel, by decide +kernel⟩
set_option maxRecDepth 20000 in
theorem k_Parser_readClause {l : Launch} {X : zX} (hl : l.stackTraces = false) {h : zH} : zGl l m_Parser_readClause X 0 0 (f_Parser_readClause h) (0, [some (zr (some (5, 1)))], [], h) (fun x => .inr ((fun a => (.inl (some (zi a.1)), a.2) : Int32 × zH → zF) x)) := by
  unfold f_Parser_readClause
  refine zG_run t_Parser [(.aload_n 0, 0, 0), (.getfield 12, 5, 0), (.getfield 42, 9, 4)] (7, [some (zr (some (5, 1)))], [zi (h.1 2 4)], h) (by decide +kernel) rfl ?_
  refine zG_case (fun c3 => ?_) (fun c3 => ?_)
  · refine zG_tin (k := 5) (off := 42) (tgt := 49) (dflt := 67) (lo := 5) (hi := 10) (offs := #[42, 37, 47, 52, 57, 62]) (len := 37) c3 (by decide +kernel) (by decide +kernel) ?_
    refine zG_run t_Parser [(.aload_n 0, 0, 0)] (50, [some (zr (some (5, 1)))], [zr (some (5, 1))], h) (by decide +kernel) rfl ?_
    refine zG_callV (idx := 56) (R := (fun a => (some (zi a.1), a.2))) (as := []) (rest := []) (n := 0) (fun a ha => c_Parser_readGate hl ha) (by decide +kernel) ⟨ok_Parser_readGate, by decide, by decide +kernel⟩ rfl w_58 w_59 w_60 (by decide) rfl rfl rfl (Nat.le_of_ble_eq_true rfl) fun x1 => ?_
    refine zG_guard fun hb2 => ?_
    exact zG_ret (r := some (zi x1.1)) rfl (zrd_z rfl (by decide +kernel) hb2)
  · refine zG_case (fun c6 => ?_) (fun c6 => ?_)
    · refine zG_tin (k := 6) (off := 37) (tgt := 44) (dflt := 67) (lo := 5) (hi := 10) (offs := #[42, 37, 47, 52, 57, 62]) (len := 37) c6 (by decide +kernel) (by decide +kernel) ?_
      refine zG_run t_Parser [(.aload_n 0, 0, 0)] (45, [some (zr (some (5, 1)))], [zr (some (5, 1))], h) (by decide +kernel) rfl ?_
      refine zG_callV (idx := 53) (R := (fun a => (some (zi a.1), a.2))) (as := []) (rest := []) (n := 0) (fun a ha => c_Parser_readIn hl ha) (by decide +kernel) ⟨ok_Parser_readIn, by decide, by decide +kernel⟩ rfl w_65 w_66 w_67 (by decide) rfl rfl rfl (Nat.le_of_ble_eq_true rfl) fun x4 => ?_
      refine zG_guard fun hb5 => ?_
      exact zG_ret (r := some (zi x4.1)) rfl (zrd_z rfl (by decide +kernel) hb5)
    · refine zG_case (fun c9 => ?_) (fun c9 => ?_)
      · refine zG_tin (k := 7) (off := 47) (tgt := 54) (dflt := 67) (lo := 5) (hi := 10) (offs := #[42, 37, 47, 52, 57, 62]) (len := 37) c9 (by decide +kernel) (by decide +kernel) ?_
        refine zG_run t_Parser [(.aload_n 0, 0, 0)] (55, [some (zr (some (5, 1)))], [zr (some (5, 1))], h) (by decide +kernel) rfl ?_
        refine zG_callV (idx := 59) (R := (fun a => (some (zi a.1), a.2))) (as := []) (rest := []) (n := 0) (fun a ha => c_Parser_readSee hl ha) (by decide +kernel) ⟨ok_Parser_readSee, by decide, by decide +kernel⟩ rfl w_69 w_70 w_71 (by decide) rfl rfl rfl (Nat.le_of_ble_eq_true rfl) fun x7 => ?_
        refine zG_guard fun hb8 => ?_
        exact zG_ret (r := some (zi x7.1)) rfl (zrd_z rfl (by decide +kernel) hb8)
      · refine zG_case (fun c12 => ?_) (fun c12 => ?_)
        · refine zG_tin (k := 8) (off := 52) (tgt := 59) (dflt := 67) (lo := 5) (hi := 10) (offs := #[42, 37, 47, 52, 57, 62]) (len := 37) c12 (by decide +kernel) (by decide +kernel) ?_
          refine zG_run t_Parser [(.aload_n 0, 0, 0)] (60, [some (zr (some (5, 1)))], [zr (some (5, 1))], h) (by decide +kernel) rfl ?_
          refine zG_callV (idx := 62) (R := (fun a => (some (zi a.1), a.2))) (as := []) (rest := []) (n := 0) (fun a ha => c_Parser_readChain hl ha) (by decide +kernel) ⟨ok_Parser_readChain, by decide, by decide +kernel⟩ rfl w_78 w_79 w_80 (by decide) rfl rfl rfl (Nat.le_of_ble_eq_true rfl) fun x10 => ?_
          refine zG_guard fun hb11 => ?_
          exact zG_ret (r := some (zi x10.1)) rfl (zrd_z rfl (by decide +kernel) hb11)
        · refine zG_case (fun c15 => ?_) (fun c15 => ?_)
          · refine zG_tin (k := 9) (off := 57) (tgt := 64) (dflt := 67) (lo := 5) (hi := 10) (offs := #[42, 37, 47, 52, 57, 62]) (len := 37) c15 (by decide +kernel) (by decide +kernel) ?_
            refine zG_run t_Parser [(.aload_n 0, 0, 0)] (65, [some (zr (some (5, 1)))], [zr (some (5, 1))], h) (by decide +kernel) rfl ?_
            refine zG_callV (idx := 65) (R := (fun a => (some (zi a.1), a.2))) (as := []) (rest := []) (n := 0) (fun a ha => c_Parser_readTake hl ha) (by decide +kernel) ⟨ok_Parser_readTake, by decide, by decide +kernel⟩ rfl w_84 w_85 w_86 (by decide) rfl rfl rfl (Nat.le_of_ble_eq_true rfl) fun x13 => ?_
            refine zG_guard fun hb14 => ?_
            exact zG_ret (r := some (zi x13.1)) rfl (zrd_z rfl (by decide +kernel) hb14)
          · refine zG_case (fun c18 => ?_) (fun c18 => ?_)
            · refine zG_tin (k := 10) (off := 62) (tgt := 69) (dflt := 67) (lo := 5) (hi := 10) (offs := #[42, 37, 47, 52, 57, 62]) (len := 37) c18 (by decide +kernel) (by decide +kernel) ?_
              refine zG_run t_Parser [(.aload_n 0, 0, 0)] (70, [some (zr (some (5, 1)))], [zr (some (5, 1))], h) (by decide +kernel) rfl ?_
              refine zG_callV (idx := 68) (R := (fun a => (some (zi a.1), a.2))) (as := []) (rest := []) (n := 0) (fun a ha => c_Parser_readFill hl ha) (by decide +kernel) ⟨ok_Parser_readFill, by decide, by decide +kernel⟩ rfl w_87 w_88 w_89 (by decide) rfl rfl rfl (Nat.le_of_ble_eq_true rfl) fun x16 => ?_
              refine zG_guard fun hb17 => ?_
              exact zG_ret (r := some (zi x16.1)) rfl (zrd_z rfl (by decide +kernel) hb17)
            · have e0 : Int32.toInt (h.1 2 4) ≠ 5 := zne (k := 5) c3
              have e1 : Int32.toInt (h.1 2 4) ≠ 6 := zne (k := 6) c6
              have e2 : Int32.toInt (h.1 2 4) ≠ 7 := zne (k := 7) c9
              have e3 : Int32.toInt (h.1 2 4) ≠ 8 := zne (k := 8) c12
              have e4 : Int32.toInt (h.1 2 4) ≠ 9 := zne (k := 9) c15
              have e5 : Int32.toInt (h.1 2 4) ≠ 10 := zne (k := 10) c18
              refine zG_tout (tgt := 74) (dflt := 67) (lo := 5) (hi := 10) (offs := #[42, 37, 47, 52, 57, 62]) (len := 37) (by omega) (by decide +kernel) rfl ?_
              refine zG_run t_Parser [(.aload_n 0, 0, 0), (.iconst 1, 0, 0)] (76, [some (zr (some (5, 1)))], [zi 1, zr (some (5, 1))], h) (by decide +kernel) rfl ?_
              refine zG_callV (idx := 71) (R := (fun a => (some (zi a.1), a.2))) (as := [zi 1]) (rest := []) (n := 1) (fun a ha => c_Parser_refuse hl ha) (by decide +kernel) ⟨ok_Parser_refuse, by decide, by decide +kernel⟩ rfl w_40 w_41 w_42 (by decide) rfl rfl rfl (Nat.le_of_ble_eq_true rfl) fun x19 => ?_
              refine zG_guard fun hb20 => ?_
              exact zG_ret (r := some (zi x19.1)) rfl (zrd_z rfl (by decide +kernel) hb20)
theorem c_Parser_readClause {l : Launch} {X : zX} (hl : l.stackTraces = false) {h : zH} {x : Int32 × zH} (hx : f_Parser_readClause h = some x) : zCt l (true, 2) 2 m_Parser_readClause X 0 0 [zr (some (5, 1))] h ((fun a => (.inl (some (zi a.1)), a.2) : Int32 × zH → zF) x) :=
  zG_ct (R := fun a => (.inl (some (zi a.1)), a.2)) (x := x) ok_Parser_readClause hl (Nat.le_of_ble_eq_true rfl) hx (k_Parser_readClause hl)
def m_Tape_clear : zM := (({ cls := "ScanPacker$Tape", name := "clear", desc := "()V" } : Jvm.MethodName), prog_10_method_4_code, 1, (Option.none : Option Jvm.ClassFile.FieldType), [], 1)
theorem ok_Tape_clear : zMok m_Tape_clear := ⟨by decide +kernel, zW_of 1065 (by decide +kernel) (by decide +kernel), zW_of 124 (by decide +kernel) (by decide +kernel), by decide, by decide +kernel, by decide +kernel⟩
set_option maxRecDepth 20000 in
theorem k_Tape_clear {l : Launch} {X : zX} (hl : l.stackTraces = false) {h : zH} : zGl l m_Tape_clear X 0 0 (f_Tape_clear h) (0, [some (zr (some (9, 2)))], [], h) (fun x => .inr ((fun a => (.inl none, a) : zH → zF) x)) := by
  unfold f_Tape_clear
  refine zG_bind (fun y => (5, [some (zr (some (9, 2)))], [], y)) (zG_run t_Tape [(.aload_n 0, 0, 0), (.iconst 0, 0, 0), (.putfield 15, 9, 1)] (5, [some (zr (some (9, 2)))], [], zsI h 2 1 0) (by decide +kernel) rfl (zG_end (L' := [some (zr (some (9, 2)))]) rfl (And.intro rfl trivial))) fun h1 => ?_
  exact zG_ret (r := none) rfl (zrd_v rfl (by decide +kernel))
theorem c_Tape_clear {l : Launch} {X : zX} (hl : l.stackTraces = false) {h : zH} {x : zH} (hx : f_Tape_clear h = some x) : zCt l (true, 2) 2 m_Tape_clear X 0 0 [zr (some (9, 2))] h ((fun a => (.inl none, a) : zH → zF) x) :=
  zG_ct (R := fun a => (.inl none, a)) (x := x) ok_Tape_clear hl (Nat.le_of_ble_eq_true rfl) hx (k_Tape_clear hl)
def m_Parser_read : zM := (({ cls := "ScanPacker$Parser", name := "read", desc := "(I)I" } : Jvm.MethodName), prog_6_method_2_code, 4, (Option.some Jvm.ClassFile.FieldType.int), [], 7)
theorem ok_Parser_read : zMok m_Parser_read := ⟨by decide +kernel, zW_of 947 (by decide +kernel) (by decide +kernel), zW_of 123 (by decide +kernel) (by decide +kernel), by decide, by decide +kernel, by decide +kernel⟩
set_option maxRecDepth 20000 in
theorem k_Parser_read_b36 {l : Launch} {X : zX} (hl : l.stackTraces = false) {h : zH} {v2 : Int32} {v3 : Int32} : zGl l m_Parser_read X 0 0 (f_Parser_read_b36 h v2 v3) (36, [some (zr (some (5, 1))), none, some (zi v2), some (zi v3)], [], h) (Sum.elim (fun s : Int32 × Int32 × zH => .inl (36, [some (zr (some (5, 1))), none, some (zi s.1), some (zi s.2.1)], [], s.2.2)) (fun y : zH => .inl (75, [some (zr (some (5, 1))), none, none, none], [], y))) := by
  unfold f_Parser_read_b36
  refine zG_run t_Parser [(.iload_n 3, 0, 0), (.sipush 900, 0, 0)] (40, [some (zr (some (5, 1))), none, some (zi v2), some (zi v3)], [zi 900, zi v3], h) (by decide +kernel) rfl ?_
  refine zG_icmp (op := .ge) (off := 35) (tgt := 75) (by decide +kernel) rfl Iff.rfl (fun c11 => ?_) (fun c11 => ?_)
  · exact zG_end (L' := [some (zr (some (5, 1))), none, none, none]) rfl (And.intro rfl trivial)
  · refine zG_run t_Parser [(.iload_n 2, 0, 0)] (44, [some (zr (some (5, 1))), none, some (zi v2), some (zi v3)], [zi v2], h) (by decide +kernel) rfl ?_
    refine zG_if (op := .eq) (off := 31) (tgt := 75) (by decide +kernel) rfl Iff.rfl (fun c10 => ?_) (fun c10 => ?_)
    · exact zG_end (L' := [some (zr (some (5, 1))), none, none, none]) rfl (And.intro rfl trivial)
    · refine zG_run t_Parser [(.aload_n 0, 0, 0), (.getfield 12, 5, 0), (.getfield 42, 9, 4)] (54, [some (zr (some (5, 1))), none, some (zi v2), some (zi v3)], [zi (h.1 2 4)], h) (by decide +kernel) rfl ?_
      refine zG_if (op := .eq) (off := 21) (tgt := 75) (by decide +kernel) rfl Iff.rfl (fun c9 => ?_) (fun c9 => ?_)
      · exact zG_end (L' := [some (zr (some (5, 1))), none, none, none]) rfl (And.intro rfl trivial)
      · refine zG_run t_Parser [(.aload_n 0, 0, 0)] (58, [some (zr (some (5, 1))), none, some (zi v2), some (zi v3)], [zr (some (5, 1))], h) (by decide +kernel) rfl ?_
        refine zG_callV (idx := 45) (R := (fun a => (some (zi a.1), a.2))) (as := []) (rest := []) (n := 0) (fun a ha => c_Parser_readClause hl ha) (by decide +kernel) ⟨ok_Parser_readClause, by decide, by decide +kernel⟩ rfl w_90 w_91 w_92 (by decide) rfl rfl rfl (Nat.le_of_ble_eq_true rfl) fun x7 => ?_
        refine zG_run t_Parser [(.istore_n 2, 0, 0), (.aload_n 0, 0, 0), (.getfield 12, 5, 0)] (66, [some (zr (some (5, 1))), none, some (zi x7.1), some (zi v3)], [zr (some (9, 2))], x7.2) (by decide +kernel) rfl ?_
        refine zG_callV (idx := 39) (R := (fun a => (none, a))) (as := []) (rest := []) (n := 0) (fun a ha => c_Tape_advance hl ha) (by decide +kernel) ⟨ok_Tape_advance, by decide, by decide +kernel⟩ rfl w_28 w_29 w_30 (by decide) rfl rfl rfl (Nat.le_of_ble_eq_true rfl) fun x8 => ?_
        refine zG_run t_Parser [(.iinc 3 1, 0, 0), (.goto (-36), 0, 0)] (36, [some (zr (some (5, 1))), none, some (zi x7.1), some (zi (v3 + 1))], [], x8) (by decide +kernel) rfl ?_
        exact zG_end (L' := [some (zr (some (5, 1))), none, some (zi x7.1), some (zi (v3 + 1))]) rfl (And.intro rfl (And.intro rfl (And.intro rfl trivial)))
set_option maxRecDepth 20000 in
theorem k_Parser_read {l : Launch} {X : zX} (hl : l.stackTraces = false) {h : zH} {v1 : Int32} : zGl l m_Parser_read X 0 0 (f_Parser_read h v1) (0, [some (zr (some (5, 1))), some (zi v1), none, none], [], h) (fun x => .inr ((fun a => (.inl (some (zi a.1)), a.2) : Int32 × zH → zF) x)) := by
  unfold f_Parser_read
  refine zG_run t_Parser [(.aload_n 0, 0, 0), (.getfield 21, 5, 1)] (4, [some (zr (some (5, 1))), some (zi v1), none, none], [zr (h.2.2.1 1 1)], h) (by decide +kernel) rfl ?_
  refine zG_dyn fun w1 _ => ?_
  refine zG_callV (idx := 29) (R := (fun a => (none, a))) (as := []) (rest := []) (n := 0) (fun a ha => c_Net_clear hl ha) (by decide +kernel) ⟨ok_Net_clear, by decide, by decide +kernel⟩ rfl w_5 w_6 w_7 (by decide) rfl rfl rfl (Nat.le_of_ble_eq_true rfl) fun x2 => ?_
  refine zG_bind (fun y => (12, [some (zr (some (5, 1))), some (zi v1), none, none], [], y)) (zG_run t_Parser [(.aload_n 0, 0, 0), (.iconst 0, 0, 0), (.putfield 32, 5, 2)] (12, [some (zr (some (5, 1))), some (zi v1), none, none], [], zsI x2 1 2 0) (by decide +kernel) rfl (zG_end (L' := [some (zr (some (5, 1))), some (zi v1), none, none]) rfl (And.intro rfl (And.intro rfl trivial)))) fun h3 => ?_
  refine zG_bind (fun y => (17, [some (zr (some (5, 1))), some (zi v1), none, none], [], y)) (zG_run t_Parser [(.aload_n 0, 0, 0), (.iconst (-1), 0, 0), (.putfield 25, 5, 3)] (17, [some (zr (some (5, 1))), some (zi v1), none, none], [], zsI h3 1 3 (-1)) (by decide +kernel) rfl (zG_end (L' := [some (zr (some (5, 1))), some (zi v1), none, none]) rfl (And.intro rfl (And.intro rfl trivial)))) fun h4 => ?_
  refine zG_run t_Parser [(.aload_n 0, 0, 0), (.getfield 12, 5, 0), (.iload_n 1, 0, 0)] (22, [some (zr (some (5, 1))), some (zi v1), none, none], [zi v1, zr (some (9, 2))], h4) (by decide +kernel) rfl ?_
  refine zG_callV (idx := 35) (R := (fun a => (none, a))) (as := [zi v1]) (rest := []) (n := 1) (fun a ha => c_Tape_beginText hl ha) (by decide +kernel) ⟨ok_Tape_beginText, by decide, by decide +kernel⟩ rfl w_10 w_11 w_12 (by decide) rfl rfl rfl (Nat.le_of_ble_eq_true rfl) fun x5 => ?_
  refine zG_run t_Parser [(.aload_n 0, 0, 0), (.getfield 12, 5, 0)] (29, [some (zr (some (5, 1))), some (zi v1), none, none], [zr (some (9, 2))], x5) (by decide +kernel) rfl ?_
  refine zG_callV (idx := 39) (R := (fun a => (none, a))) (as := []) (rest := []) (n := 0) (fun a ha => c_Tape_advance hl ha) (by decide +kernel) ⟨ok_Tape_advance, by decide, by decide +kernel⟩ rfl w_28 w_29 w_30 (by decide) rfl rfl rfl (Nat.le_of_ble_eq_true rfl) fun x6 => ?_
  refine zG_run t_Parser [(.iconst 1, 0, 0), (.istore_n 2, 0, 0), (.iconst 0, 0, 0), (.istore_n 3, 0, 0)] (36, [some (zr (some (5, 1))), some (zi v1), some (zi 1), some (zi 0)], [], x6) (by decide +kernel) rfl ?_
  refine zG_forget (L' := [some (zr (some (5, 1))), none, some (zi 1), some (zi 0)]) (And.intro rfl (And.intro rfl (And.intro rfl trivial))) ?_
  refine zG_bind (fun y : zH => (75, [some (zr (some (5, 1))), none, none, none], [], y)) (zG_iter (fun s : Int32 × Int32 × zH => (36, [some (zr (some (5, 1))), none, some (zi s.1), some (zi s.2.1)], [], s.2.2)) fun s => k_Parser_read_b36 hl) (fun y13 => ?_)
  refine zG_run t_Parser [(.aload_n 0, 0, 0), (.getfield 12, 5, 0)] (79, [some (zr (some (5, 1))), none, none, none], [zr (some (9, 2))], y13) (by decide +kernel) rfl ?_
  refine zG_callV (idx := 49) (R := (fun a => (none, a))) (as := []) (rest := []) (n := 0) (fun a ha => c_Tape_clear hl ha) (by decide +kernel) ⟨ok_Tape_clear, by decide, by decide +kernel⟩ rfl w_93 w_94 w_95 (by decide) rfl rfl rfl (Nat.le_of_ble_eq_true rfl) fun x14 => ?_
  refine zG_run t_Parser [(.aload_n 0, 0, 0), (.getfield 32, 5, 2)] (86, [some (zr (some (5, 1))), none, none, none], [zi (x14.1 1 2)], x14) (by decide +kernel) rfl ?_
  exact zG_ret (r := some (zi (x14.1 1 2))) rfl (zrd_i rfl (by decide +kernel))
theorem c_Parser_read {l : Launch} {X : zX} (hl : l.stackTraces = false) {h : zH} {v1 : Int32} {x : Int32 × zH} (hx : f_Parser_read h v1 = some x) : zCt l (true, 2) 2 m_Parser_read X 0 0 [zr (some (5, 1)), zi v1] h ((fun a => (.inl (some (zi a.1)), a.2) : Int32 × zH → zF) x) :=
  zG_ct (R := fun a => (.inl (some (zi a.1)), a.2)) (x := x) ok_Parser_read hl (Nat.le_of_ble_eq_true rfl) hx (k_Parser_read hl)
def m_Parser_handOver : zM := (({ cls := "ScanPacker$Parser", name := "handOver", desc := "(LScanPacker$Net;)LScanPacker$Net;" } : Jvm.MethodName), prog_6_method_3_code, 3, (Option.some (Jvm.ClassFile.FieldType.object "ScanPacker$Net")), [], 1)
theorem ok_Parser_handOver : zMok m_Parser_handOver := ⟨by decide +kernel, zW_of 1069 (by decide +kernel) (by decide +kernel), zW_of 123 (by decide +kernel) (by decide +kernel), by decide, by decide +kernel, by decide +kernel⟩
set_option maxRecDepth 20000 in
theorem k_Parser_handOver {l : Launch} {X : zX} (hl : l.stackTraces = false) {o1 : Nat} {h : zH} : zGl l m_Parser_handOver X 0 0 (f_Parser_handOver o1 h) (0, [some (zr (some (5, 1))), some (zr (some (3, o1))), none], [], h) (fun x => .inr ((fun a => (.inl (some (zr (some (3, a.1)))), a.2) : Nat × zH → zF) x)) := by
  unfold f_Parser_handOver
  refine zG_run t_Parser [(.aload_n 0, 0, 0), (.getfield 21, 5, 1)] (4, [some (zr (some (5, 1))), some (zr (some (3, o1))), none], [zr (h.2.2.1 1 1)], h) (by decide +kernel) rfl ?_
  refine zG_dyn fun w1 _ => ?_
  refine zG_bind (fun y => (10, [some (zr (some (5, 1))), some (zr (some (3, o1))), some (zr (some (3, w1)))], [], y)) (zG_run t_Parser [(.astore_n 2, 0, 0), (.aload_n 0, 0, 0), (.aload_n 1, 0, 0), (.putfield 21, 5, 1)] (10, [some (zr (some (5, 1))), some (zr (some (3, o1))), some (zr (some (3, w1)))], [], zsR h 1 1 (some (3, o1))) (by decide +kernel) rfl (zG_end (L' := [some (zr (some (5, 1))), some (zr (some (3, o1))), some (zr (some (3, w1)))]) rfl (And.intro rfl (And.intro rfl (And.intro rfl trivial))))) fun h2 => ?_
  refine zG_run t_Parser [(.aload_n 2, 0, 0)] (11, [some (zr (some (5, 1))), some (zr (some (3, o1))), some (zr (some (3, w1)))], [zr (some (3, w1))], h2) (by decide +kernel) rfl ?_
  exact zG_ret (r := some (zr (some (3, w1)))) rfl (zrd_r (n := "ScanPacker$Net") rfl (by decide +kernel))
theorem c_Parser_handOver {l : Launch} {X : zX} (hl : l.stackTraces = false) {o1 : Nat} {h : zH} {x : Nat × zH} (hx : f_Parser_handOver o1 h = some x) : zCt l (true, 2) 2 m_Parser_handOver X 0 0 [zr (some (5, 1)), zr (some (3, o1))] h ((fun a => (.inl (some (zr (some (3, a.1)))), a.2) : Nat × zH → zF) x) :=
  zG_ct (R := fun a => (.inl (some (zr (some (3, a.1)))), a.2)) (x := x) ok_Parser_handOver hl (Nat.le_of_ble_eq_true rfl) hx (k_Parser_handOver hl)
def m_Waves_unsetInputs : zM := (({ cls := "ScanPacker$Waves", name := "unsetInputs", desc := "()V" } : Jvm.MethodName), prog_11_method_2_code, 2, (Option.none : Option Jvm.ClassFile.FieldType), [], 1)
theorem ok_Waves_unsetInputs : zMok m_Waves_unsetInputs := ⟨by decide +kernel, zW_of 587 (by decide +kernel) (by decide +kernel), zW_of 127 (by decide +kernel) (by decide +kernel), by decide, by decide +kernel, by decide +kernel⟩
set_option maxRecDepth 20000 in
theorem k_Waves_unsetInputs_b2 {l : Launch} {X : zX} (hl : l.stackTraces = false) {o : Nat} {h : zH} {v1 : Int32} : zGl l m_Waves_unsetInputs X 0 0 (f_Waves_unsetInputs_b2 o h v1) (2, [some (zr (some (10, o))), some (zi v1)], [], h) (Sum.elim (fun s : Int32 × zH => .inl (2, [some (zr (some (10, o))), some (zi s.1)], [], s.2)) (fun y : zH => .inl (28, [none, none], [], y))) := by
  unfold f_Waves_unsetInputs_b2
  refine zG_run t_Waves [(.iload_n 1, 0, 0), (.bipush 6, 0, 0)] (5, [some (zr (some (10, o))), some (zi v1)], [zi 6, zi v1], h) (by decide +kernel) rfl ?_
  refine zG_icmp (op := .ge) (off := 23) (tgt := 28) (by decide +kernel) rfl Iff.rfl (fun c5 => ?_) (fun c5 => ?_)
  · exact zG_end (L' := [none, none]) rfl (trivial)
  · refine zG_run t_Waves [(.aload_n 0, 0, 0), (.getfield 9, 10, 0), (.iload_n 1, 0, 0), (.lconst 0, 0, 0)] (14, [some (zr (some (10, o))), some (zi v1)], [zl 0, zi v1, zr (some (40, (o + 1)))], h) (by decide +kernel) rfl ?_
    refine zG_guard fun hb2 => ?_
    refine zG_bind (fun y => (15, [some (zr (some (10, o))), some (zi v1)], [], y)) (zG_astc (h' := zsL h (o + 1) v1.toNatClampNeg 0) rfl (by decide +kernel) hb2 rfl (zG_end (L' := [some (zr (some (10, o))), some (zi v1)]) rfl (And.intro rfl (And.intro rfl trivial)))) fun h1 => ?_
    refine zG_run t_Waves [(.aload_n 0, 0, 0), (.getfield 15, 10, 1), (.iload_n 1, 0, 0), (.lconst 0, 0, 0)] (21, [some (zr (some (10, o))), some (zi v1)], [zl 0, zi v1, zr (some (41, (o + 2)))], h1) (by decide +kernel) rfl ?_
    refine zG_guard fun hb4 => ?_
    refine zG_bind (fun y => (22, [some (zr (some (10, o))), some (zi v1)], [], y)) (zG_astc (h' := zsL h1 (o + 2) v1.toNatClampNeg 0) rfl (by decide +kernel) hb4 rfl (zG_end (L' := [some (zr (some (10, o))), some (zi v1)]) rfl (And.intro rfl (And.intro rfl trivial)))) fun h3 => ?_
    refine zG_run t_Waves [(.iinc 1 1, 0, 0), (.goto (-23), 0, 0)] (2, [some (zr (some (10, o))), some (zi (v1 + 1))], [], h3) (by decide +kernel) rfl ?_
    exact zG_end (L' := [some (zr (some (10, o))), some (zi (v1 + 1))]) rfl (And.intro rfl (And.intro rfl trivial))
set_option maxRecDepth 20000 in
theorem k_Waves_unsetInputs {l : Launch} {X : zX} (hl : l.stackTraces = false) {o : Nat} {h : zH} : zGl l m_Waves_unsetInputs X 0 0 (f_Waves_unsetInputs o h) (0, [some (zr (some (10, o))), none], [], h) (fun x => .inr ((fun a => (.inl none, a) : zH → zF) x)) := by
  unfold f_Waves_unsetInputs
  refine zG_run t_Waves [(.iconst 0, 0, 0), (.istore_n 1, 0, 0)] (2, [some (zr (some (10, o))), some (zi 0)], [], h) (by decide +kernel) rfl ?_
  refine zG_forget (L' := [some (zr (some (10, o))), some (zi 0)]) (And.intro rfl (And.intro rfl trivial)) ?_
  refine zG_bind (fun y : zH => (28, [none, none], [], y)) (zG_iter (fun s : Int32 × zH => (2, [some (zr (some (10, o))), some (zi s.1)], [], s.2)) fun s => k_Waves_unsetInputs_b2 hl) (fun y7 => ?_)
  exact zG_ret (r := none) rfl (zrd_v rfl (by decide +kernel))
theorem c_Waves_unsetInputs {l : Launch} {X : zX} (hl : l.stackTraces = false) {o : Nat} {h : zH} {x : zH} (hx : f_Waves_unsetInputs o h = some x) : zCt l (true, 2) 2 m_Waves_unsetInputs X 0 0 [zr (some (10, o))] h ((fun a => (.inl none, a) : zH → zF) x) :=
  zG_ct (R := fun a => (.inl none, a)) (x := x) ok_Waves_unsetInputs hl (Nat.le_of_ble_eq_true rfl) hx (k_Waves_unsetInputs hl)
def m_Waves_setInput : zM := (({ cls := "ScanPacker$Waves", name := "setInput", desc := "(IJJ)V" } : Jvm.MethodName), prog_11_method_3_code, 6, (Option.none : Option Jvm.ClassFile.FieldType), [], 1)
theorem ok_Waves_setInput : zMok m_Waves_setInput := ⟨by decide +kernel, zW_of 594 (by decide +kernel) (by decide +kernel), zW_of 127 (by decide +kernel) (by decide +kernel), by decide, by decide +kernel, by decide +kernel⟩
set_option maxRecDepth 20000 in
theorem k_Waves_setInput {l : Launch} {X : zX} (hl : l.stackTraces = false) {o : Nat} {h : zH} {v1 : Int32} {v2 : Int64} {v4 : Int64} : zGl l m_Waves_setInput X 0 0 (f_Waves_setInput o h v1 v2 v4) (0, [some (zr (some (10, o))), some (zi v1), some (zl v2), none, some (zl v4), none], [], h) (fun x => .inr ((fun a => (.inl none, a) : zH → zF) x)) := by
  unfold f_Waves_setInput
  refine zG_run t_Waves [(.aload_n 0, 0, 0), (.getfield 9, 10, 0), (.iload_n 1, 0, 0), (.dup2, 0, 0)] (6, [some (zr (some (10, o))), some (zi v1), some (zl v2), none, some (zl v4), none], [zi v1, zr (some (40, (o + 1))), zi v1, zr (some (40, (o + 1)))], h) (by decide +kernel) rfl ?_
  refine zG_ald (v := zl (h.2.1 (o + 1) v1.toNatClampNeg)) (n := 6) rfl (by decide +kernel) rfl rfl fun hb1 => ?_
  refine zG_run t_Waves [(.lload_n 2, 0, 0), (.lor, 0, 0)] (9, [some (zr (some (10, o))), some (zi v1), some (zl v2), none, some (zl v4), none], [zl ((h.2.1 (o + 1) v1.toNatClampNeg) ||| v2), zi v1, zr (some (40, (o + 1)))], h) (by decide +kernel) rfl ?_
  refine zG_guard fun hb3 => ?_
  refine zG_bind (fun y => (10, [some (zr (some (10, o))), some (zi v1), some (zl v2), none, some (zl v4), none], [], y)) (zG_astc (h' := zsL h (o + 1) v1.toNatClampNeg ((h.2.1 (o + 1) v1.toNatClampNeg) ||| v2)) rfl (by decide +kernel) hb3 rfl (zG_end (L' := [some (zr (some (10, o))), some (zi v1), some (zl v2), none, some (zl v4), none]) rfl (And.intro rfl (And.intro rfl (And.intro rfl (And.intro rfl trivial)))))) fun h2 => ?_
  refine zG_run t_Waves [(.aload_n 0, 0, 0), (.getfield 15, 10, 1), (.iload_n 1, 0, 0), (.dup2, 0, 0)] (16, [some (zr (some (10, o))), some (zi v1), some (zl v2), none, some (zl v4), none], [zi v1, zr (some (41, (o + 2))), zi v1, zr (some (41, (o + 2)))], h2) (by decide +kernel) rfl ?_
  refine zG_ald (v := zl (h2.2.1 (o + 2) v1.toNatClampNeg)) (n := 6) rfl (by decide +kernel) rfl rfl fun hb4 => ?_
  refine zG_run t_Waves [(.lload 4, 0, 0), (.lor, 0, 0)] (20, [some (zr (some (10, o))), some (zi v1), some (zl v2), none, some (zl v4), none], [zl ((h2.2.1 (o + 2) v1.toNatClampNeg) ||| v4), zi v1, zr (some (41, (o + 2)))], h2) (by decide +kernel) rfl ?_
  refine zG_guard fun hb6 => ?_
  refine zG_bind (fun y => (21, [some (zr (some (10, o))), some (zi v1), some (zl v2), none, some (zl v4), none], [], y)) (zG_astc (h' := zsL h2 (o + 2) v1.toNatClampNeg ((h2.2.1 (o + 2) v1.toNatClampNeg) ||| v4)) rfl (by decide +kernel) hb6 rfl (zG_end (L' := [some (zr (some (10, o))), some (zi v1), some (zl v2), none, some (zl v4), none]) rfl (And.intro rfl (And.intro rfl (And.intro rfl (And.intro rfl trivial)))))) fun h5 => ?_
  exact zG_ret (r := none) rfl (zrd_v rfl (by decide +kernel))
theorem c_Waves_setInput {l : Launch} {X : zX} (hl : l.stackTraces = false) {o : Nat} {h : zH} {v1 : Int32} {v2 : Int64} {v4 : Int64} {x : zH} (hx : f_Waves_setInput o h v1 v2 v4 = some x) : zCt l (true, 2) 2 m_Waves_setInput X 0 0 [zr (some (10, o)), zi v1, zl v2, zl v4] h ((fun a => (.inl none, a) : zH → zF) x) :=
  zG_ct (R := fun a => (.inl none, a)) (x := x) ok_Waves_setInput hl (Nat.le_of_ble_eq_true rfl) hx (k_Waves_setInput hl)
def m_Waves_spreadGate : zM := (({ cls := "ScanPacker$Waves", name := "spreadGate", desc := "(LScanPacker$Net;I)V" } : Jvm.MethodName), prog_11_method_6_code, 13, (Option.none : Option Jvm.ClassFile.FieldType), [], 1)
theorem ok_Waves_spreadGate : zMok m_Waves_spreadGate := ⟨by decide +kernel, zW_of 604 (by decide +kernel) (by decide +kernel), zW_of 127 (by decide +kernel) (by decide +kernel), by decide, by decide +kernel, by decide +kernel⟩
set_option maxRecDepth 20000 in
theorem k_Waves_spreadGate_j70 {l : Launch} {X : zX} (hl : l.stackTraces = false) {o : Nat} {o1 : Nat} {h : zH} {v2 : Int32} {v3 : Int32} {v5 : Int64} {v7 : Int64} {v9 : Int32} {v10 : Int32} : zGl l m_Waves_spreadGate X 0 0 (f_Waves_spreadGate_j70 o o1 h v2 v3 v5 v7 v9 v10) (70, [some (zr (some (10, o))), some (zr (some (3, o1))), some (zi v2), some (zi v3), none, some (zl v5), none, some (zl v7), none, some (zi v9), some (zi v10), none, none], [], h) (Sum.elim (fun s : Int64 × Int64 × Int32 => .inl (38, [some (zr (some (10, o))), some (zr (some (3, o1))), some (zi v2), some (zi v3), none, some (zl s.1), none, some (zl s.2.1), none, some (zi s.2.2), none, none, none], [], h)) (fun y : Int64 × Int64 => .inl (190, [some (zr (some (10, o))), none, some (zi v2), some (zi v3), none, some (zl y.1), none, some (zl y.2), none, none, none, none, none], [], h))) := by
  unfold f_Waves_spreadGate_j70
  refine zG_run t_Waves [(.lload 5, 0, 0), (.aload_n 0, 0, 0), (.getfield 18, 10, 2), (.iload 10, 0, 0)] (78, [some (zr (some (10, o))), some (zr (some (3, o1))), some (zi v2), some (zi v3), none, some (zl v5), none, some (zl v7), none, some (zi v9), some (zi v10), none, none], [zi v10, zr (some (42, (o + 3))), zl v5], h) (by decide +kernel) rfl ?_
  refine zG_ald (v := zl (h.2.1 (o + 3) v10.toNatClampNeg)) (n := 22) rfl (by decide +kernel) rfl rfl fun hb8 => ?_
  refine zG_run t_Waves [(.land, 0, 0), (.lstore 5, 0, 0), (.lload 7, 0, 0), (.aload_n 0, 0, 0), (.getfield 21, 10, 3), (.iload 10, 0, 0)] (90, [some (zr (some (10, o))), some (zr (some (3, o1))), some (zi v2), some (zi v3), none, some (zl (v5 &&& (h.2.1 (o + 3) v10.toNatClampNeg))), none, some (zl v7), none, some (zi v9), some (zi v10), none, none], [zi v10, zr (some (43, (o + 4))), zl v7], h) (by decide +kernel) rfl ?_
  refine zG_ald (v := zl (h.2.1 (o + 4) v10.toNatClampNeg)) (n := 22) rfl (by decide +kernel) rfl rfl fun hb9 => ?_
  refine zG_run t_Waves [(.lor, 0, 0), (.lstore 7, 0, 0), (.goto 90, 0, 0), (.iinc 9 1, 0, 0), (.goto (-149), 0, 0)] (38, [some (zr (some (10, o))), some (zr (some (3, o1))), some (zi v2), some (zi v3), none, some (zl (v5 &&& (h.2.1 (o + 3) v10.toNatClampNeg))), none, some (zl (v7 ||| (h.2.1 (o + 4) v10.toNatClampNeg))), none, some (zi (v9 + 1)), some (zi v10), none, none], [], h) (by decide +kernel) rfl ?_
  exact zG_end (L' := [some (zr (some (10, o))), some (zr (some (3, o1))), some (zi v2), some (zi v3), none, some (zl (v5 &&& (h.2.1 (o + 3) v10.toNatClampNeg))), none, some (zl (v7 ||| (h.2.1 (o + 4) v10.toNatClampNeg))), none, some (zi (v9 + 1)), none, none, none]) rfl (And.intro rfl (And.intro rfl (And.intro rfl (And.intro rfl (And.intro rfl (And.intro rfl (And.intro rfl trivial)))))))
set_option maxRecDepth 20000 in
theorem k_Waves_spreadGate_j107 {l : Launch} {X : zX} (hl : l.stackTraces = false) {o : Nat} {o1 : Nat} {h : zH} {v2 : Int32} {v3 : Int32} {v5 : Int64} {v7 : Int64} {v9 : Int32} {v10 : Int32} : zGl l m_Waves_spreadGate X 0 0 (f_Waves_spreadGate_j107 o o1 h v2 v3 v5 v7 v9 v10) (107, [some (zr (some (10, o))), some (zr (some (3, o1))), some (zi v2), some (zi v3), none, some (zl v5), none, some (zl v7), none, some (zi v9), some (zi v10), none, none], [], h) (Sum.elim (fun s : Int64 × Int64 × Int32 => .inl (38, [some (zr (some (10, o))), some (zr (some (3, o1))), some (zi v2), some (zi v3), none, some (zl s.1), none, some (zl s.2.1), none, some (zi s.2.2), none, none, none], [], h)) (fun y : Int64 × Int64 => .inl (190, [some (zr (some (10, o))), none, some (zi v2), some (zi v3), none, some (zl y.1), none, some (zl y.2), none, none, none, none, none], [], h))) := by
  unfold f_Waves_spreadGate_j107
  refine zG_run t_Waves [(.lload 5, 0, 0), (.aload_n 0, 0, 0), (.getfield 18, 10, 2), (.iload 10, 0, 0)] (115, [some (zr (some (10, o))), some (zr (some (3, o1))), some (zi v2), some (zi v3), none, some (zl v5), none, some (zl v7), none, some (zi v9), some (zi v10), none, none], [zi v10, zr (some (42, (o + 3))), zl v5], h) (by decide +kernel) rfl ?_
  refine zG_ald (v := zl (h.2.1 (o + 3) v10.toNatClampNeg)) (n := 22) rfl (by decide +kernel) rfl rfl fun hb10 => ?_
  refine zG_run t_Waves [(.lor, 0, 0), (.lstore 5, 0, 0), (.lload 7, 0, 0), (.aload_n 0, 0, 0), (.getfield 21, 10, 3), (.iload 10, 0, 0)] (127, [some (zr (some (10, o))), some (zr (some (3, o1))), some (zi v2), some (zi v3), none, some (zl (v5 ||| (h.2.1 (o + 3) v10.toNatClampNeg))), none, some (zl v7), none, some (zi v9), some (zi v10), none, none], [zi v10, zr (some (43, (o + 4))), zl v7], h) (by decide +kernel) rfl ?_
  refine zG_ald (v := zl (h.2.1 (o + 4) v10.toNatClampNeg)) (n := 22) rfl (by decide +kernel) rfl rfl fun hb11 => ?_
  refine zG_run t_Waves [(.land, 0, 0), (.lstore 7, 0, 0), (.goto 53, 0, 0), (.iinc 9 1, 0, 0), (.goto (-149), 0, 0)] (38, [some (zr (some (10, o))), some (zr (some (3, o1))), some (zi v2), some (zi v3), none, some (zl (v5 ||| (h.2.1 (o + 3) v10.toNatClampNeg))), none, some (zl (v7 &&& (h.2.1 (o + 4) v10.toNatClampNeg))), none, some (zi (v9 + 1)), some (zi v10), none, none], [], h) (by decide +kernel) rfl ?_
  exact zG_end (L' := [some (zr (some (10, o))), some (zr (some (3, o1))), some (zi v2), some (zi v3), none, some (zl (v5 ||| (h.2.1 (o + 3) v10.toNatClampNeg))), none, some (zl (v7 &&& (h.2.1 (o + 4) v10.toNatClampNeg))), none, some (zi (v9 + 1)), none, none, none]) rfl (And.intro rfl (And.intro rfl (And.intro rfl (And.intro rfl (And.intro rfl (And.intro rfl (And.intro rfl trivial)))))))
set_option maxRecDepth 20000 in
theorem k_Waves_spreadGate_b38 {l : Launch} {X : zX} (hl : l.stackTraces = false) {o : Nat} {o1 : Nat} {h : zH} {v2 : Int32} {v3 : Int32} {v5 : Int64} {v7 : Int64} {v9 : Int32} : zGl l m_Waves_spreadGate X 0 0 (f_Waves_spreadGate_b38 o o1 h v2 v3 v5 v7 v9) (38, [some (zr (some (10, o))), some (zr (some (3, o1))), some (zi v2), some (zi v3), none, some (zl v5), none, some (zl v7), none, some (zi v9), none, none, none], [], h) (Sum.elim (fun s : Int64 × Int64 × Int32 => .inl (38, [some (zr (some (10, o))), some (zr (some (3, o1))), some (zi v2), some (zi v3), none, some (zl s.1), none, some (zl s.2.1), none, some (zi s.2.2), none, none, none], [], h)) (fun y : Int64 × Int64 => .inl (190, [some (zr (some (10, o))), none, some (zi v2), some (zi v3), none, some (zl y.1), none, some (zl y.2), none, none, none, none, none], [], h))) := by
  unfold f_Waves_spreadGate_b38
  refine zG_run t_Waves [(.iload 9, 0, 0), (.aload_n 1, 0, 0), (.getfield 48, 3, 10), (.iload_n 2, 0, 0)] (45, [some (zr (some (10, o))), some (zr (some (3, o1))), some (zi v2), some (zi v3), none, some (zl v5), none, some (zl v7), none, some (zi v9), none, none, none], [zi v2, zr (some (24, (o1 + 4))), zi v9], h) (by decide +kernel) rfl ?_
  refine zG_ald (v := zi (h.1 (o1 + 4) v2.toNatClampNeg)) (n := 22) rfl (by decide +kernel) rfl rfl fun hb5 => ?_
  refine zG_icmp (op := .ge) (off := 144) (tgt := 190) (by decide +kernel) rfl Iff.rfl (fun c20 => ?_) (fun c20 => ?_)
  · exact zG_end (L' := [some (zr (some (10, o))), none, some (zi v2), some (zi v3), none, some (zl v5), none, some (zl v7), none, none, none, none, none]) rfl (And.intro rfl (And.intro rfl (And.intro rfl (And.intro rfl (And.intro rfl trivial)))))
  · refine zG_run t_Waves [(.aload_n 1, 0, 0), (.getfield 44, 3, 11), (.iload_n 2, 0, 0)] (54, [some (zr (some (10, o))), some (zr (some (3, o1))), some (zi v2), some (zi v3), none, some (zl v5), none, some (zl v7), none, some (zi v9), none, none, none], [zi v2, zr (some (25, (o1 + 5)))], h) (by decide +kernel) rfl ?_
    refine zG_ald (v := zr (some (26, ((o1 + 5) + (1 + 1 * v2.toNatClampNeg))))) (n := 22) rfl (by decide +kernel) rfl rfl fun hb6 => ?_
    refine zG_run t_Waves [(.iload 9, 0, 0)] (57, [some (zr (some (10, o))), some (zr (some (3, o1))), some (zi v2), some (zi v3), none, some (zl v5), none, some (zl v7), none, some (zi v9), none, none, none], [zi v9, zr (some (26, ((o1 + 5) + (1 + 1 * v2.toNatClampNeg))))], h) (by decide +kernel) rfl ?_
    refine zG_ald (v := zi (h.1 ((o1 + 5) + (1 + 1 * v2.toNatClampNeg)) v9.toNatClampNeg)) (n := 3) rfl (by decide +kernel) rfl rfl fun hb7 => ?_
    refine zG_run t_Waves [(.istore 10, 0, 0), (.iload_n 3, 0, 0), (.iconst 1, 0, 0)] (62, [some (zr (some (10, o))), some (zr (some (3, o1))), some (zi v2), some (zi v3), none, some (zl v5), none, some (zl v7), none, some (zi v9), some (zi (h.1 ((o1 + 5) + (1 + 1 * v2.toNatClampNeg)) v9.toNatClampNeg)), none, none], [zi 1, zi v3], h) (by decide +kernel) rfl ?_
    refine zG_icmp (op := .eq) (off := 8) (tgt := 70) (by decide +kernel) rfl Iff.rfl (fun c19 => ?_) (fun c19 => ?_)
    · exact zG_forget (L' := [some (zr (some (10, o))), some (zr (some (3, o1))), some (zi v2), some (zi v3), none, some (zl v5), none, some (zl v7), none, some (zi v9), some (zi (h.1 ((o1 + 5) + (1 + 1 * v2.toNatClampNeg)) v9.toNatClampNeg)), none, none]) (And.intro rfl (And.intro rfl (And.intro rfl (And.intro rfl (And.intro rfl (And.intro rfl (And.intro rfl (And.intro rfl trivial)))))))) (k_Waves_spreadGate_j70 hl)
    · refine zG_run t_Waves [(.iload_n 3, 0, 0), (.iconst 4, 0, 0)] (67, [some (zr (some (10, o))), some (zr (some (3, o1))), some (zi v2), some (zi v3), none, some (zl v5), none, some (zl v7), none, some (zi v9), some (zi (h.1 ((o1 + 5) + (1 + 1 * v2.toNatClampNeg)) v9.toNatClampNeg)), none, none], [zi 4, zi v3], h) (by decide +kernel) rfl ?_
      refine zG_icmp (op := .ne) (off := 30) (tgt := 97) (by decide +kernel) rfl Iff.rfl (fun c18 => ?_) (fun c18 => ?_)
      · refine zG_run t_Waves [(.iload_n 3, 0, 0), (.iconst 2, 0, 0)] (99, [some (zr (some (10, o))), some (zr (some (3, o1))), some (zi v2), some (zi v3), none, some (zl v5), none, some (zl v7), none, some (zi v9), some (zi (h.1 ((o1 + 5) + (1 + 1 * v2.toNatClampNeg)) v9.toNatClampNeg)), none, none], [zi 2, zi v3], h) (by decide +kernel) rfl ?_
        refine zG_icmp (op := .eq) (off := 8) (tgt := 107) (by decide +kernel) rfl Iff.rfl (fun c17 => ?_) (fun c17 => ?_)
        · exact zG_forget (L' := [some (zr (some (10, o))), some (zr (some (3, o1))), some (zi v2), some (zi v3), none, some (zl v5), none, some (zl v7), none, some (zi v9), some (zi (h.1 ((o1 + 5) + (1 + 1 * v2.toNatClampNeg)) v9.toNatClampNeg)), none, none]) (And.intro rfl (And.intro rfl (And.intro rfl (And.intro rfl (And.intro rfl (And.intro rfl (And.intro rfl (And.intro rfl trivial)))))))) (k_Waves_spreadGate_j107 hl)
        · refine zG_run t_Waves [(.iload_n 3, 0, 0), (.iconst 5, 0, 0)] (104, [some (zr (some (10, o))), some (zr (some (3, o1))), some (zi v2), some (zi v3), none, some (zl v5), none, some (zl v7), none, some (zi v9), some (zi (h.1 ((o1 + 5) + (1 + 1 * v2.toNatClampNeg)) v9.toNatClampNeg)), none, none], [zi 5, zi v3], h) (by decide +kernel) rfl ?_
          refine zG_icmp (op := .ne) (off := 30) (tgt := 134) (by decide +kernel) rfl Iff.rfl (fun c16 => ?_) (fun c16 => ?_)
          · refine zG_run t_Waves [(.lload 5, 0, 0), (.aload_n 0, 0, 0), (.getfield 21, 10, 3), (.iload 10, 0, 0)] (142, [some (zr (some (10, o))), some (zr (some (3, o1))), some (zi v2), some (zi v3), none, some (zl v5), none, some (zl v7), none, some (zi v9), some (zi (h.1 ((o1 + 5) + (1 + 1 * v2.toNatClampNeg)) v9.toNatClampNeg)), none, none], [zi (h.1 ((o1 + 5) + (1 + 1 * v2.toNatClampNeg)) v9.toNatClampNeg), zr (some (43, (o + 4))), zl v5], h) (by decide +kernel) rfl ?_
            refine zG_ald (v := zl (h.2.1 (o + 4) (h.1 ((o1 + 5) + (1 + 1 * v2.toNatClampNeg)) v9.toNatClampNeg).toNatClampNeg)) (n := 22) rfl (by decide +kernel) rfl rfl fun hb12 => ?_
            refine zG_run t_Waves [(.land, 0, 0), (.lload 7, 0, 0), (.aload_n 0, 0, 0), (.getfield 18, 10, 2), (.iload 10, 0, 0)] (152, [some (zr (some (10, o))), some (zr (some (3, o1))), some (zi v2), some (zi v3), none, some (zl v5), none, some (zl v7), none, some (zi v9), some (zi (h.1 ((o1 + 5) + (1 + 1 * v2.toNatClampNeg)) v9.toNatClampNeg)), none, none], [zi (h.1 ((o1 + 5) + (1 + 1 * v2.toNatClampNeg)) v9.toNatClampNeg), zr (some (42, (o + 3))), zl v7, zl (v5 &&& (h.2.1 (o + 4) (h.1 ((o1 + 5) + (1 + 1 * v2.toNatClampNeg)) v9.toNatClampNeg).toNatClampNeg))], h) (by decide +kernel) rfl ?_
            refine zG_ald (v := zl (h.2.1 (o + 3) (h.1 ((o1 + 5) + (1 + 1 * v2.toNatClampNeg)) v9.toNatClampNeg).toNatClampNeg)) (n := 22) rfl (by decide +kernel) rfl rfl fun hb13 => ?_
            refine zG_run t_Waves [(.land, 0, 0), (.lor, 0, 0), (.lstore 11, 0, 0), (.lload 5, 0, 0), (.aload_n 0, 0, 0), (.getfield 18, 10, 2), (.iload 10, 0, 0)] (165, [some (zr (some (10, o))), some (zr (some (3, o1))), some (zi v2), some (zi v3), none, some (zl v5), none, some (zl v7), none, some (zi v9), some (zi (h.1 ((o1 + 5) + (1 + 1 * v2.toNatClampNeg)) v9.toNatClampNeg)), some (zl ((v5 &&& (h.2.1 (o + 4) (h.1 ((o1 + 5) + (1 + 1 * v2.toNatClampNeg)) v9.toNatClampNeg).toNatClampNeg)) ||| (v7 &&& (h.2.1 (o + 3) (h.1 ((o1 + 5) + (1 + 1 * v2.toNatClampNeg)) v9.toNatClampNeg).toNatClampNeg)))), none], [zi (h.1 ((o1 + 5) + (1 + 1 * v2.toNatClampNeg)) v9.toNatClampNeg), zr (some (42, (o + 3))), zl v5], h) (by decide +kernel) rfl ?_
            refine zG_ald (v := zl (h.2.1 (o + 3) (h.1 ((o1 + 5) + (1 + 1 * v2.toNatClampNeg)) v9.toNatClampNeg).toNatClampNeg)) (n := 22) rfl (by decide +kernel) rfl rfl fun hb14 => ?_
            refine zG_run t_Waves [(.land, 0, 0), (.lload 7, 0, 0), (.aload_n 0, 0, 0), (.getfield 21, 10, 3), (.iload 10, 0, 0)] (175, [some (zr (some (10, o))), some (zr (some (3, o1))), some (zi v2), some (zi v3), none, some (zl v5), none, some (zl v7), none, some (zi v9), some (zi (h.1 ((o1 + 5) + (1 + 1 * v2.toNatClampNeg)) v9.toNatClampNeg)), some (zl ((v5 &&& (h.2.1 (o + 4) (h.1 ((o1 + 5) + (1 + 1 * v2.toNatClampNeg)) v9.toNatClampNeg).toNatClampNeg)) ||| (v7 &&& (h.2.1 (o + 3) (h.1 ((o1 + 5) + (1 + 1 * v2.toNatClampNeg)) v9.toNatClampNeg).toNatClampNeg)))), none], [zi (h.1 ((o1 + 5) + (1 + 1 * v2.toNatClampNeg)) v9.toNatClampNeg), zr (some (43, (o + 4))), zl v7, zl (v5 &&& (h.2.1 (o + 3) (h.1 ((o1 + 5) + (1 + 1 * v2.toNatClampNeg)) v9.toNatClampNeg).toNatClampNeg))], h) (by decide +kernel) rfl ?_
            refine zG_ald (v := zl (h.2.1 (o + 4) (h.1 ((o1 + 5) + (1 + 1 * v2.toNatClampNeg)) v9.toNatClampNeg).toNatClampNeg)) (n := 22) rfl (by decide +kernel) rfl rfl fun hb15 => ?_
            refine zG_run t_Waves [(.land, 0, 0), (.lor, 0, 0), (.lstore 7, 0, 0), (.lload 11, 0, 0), (.lstore 5, 0, 0), (.iinc 9 1, 0, 0), (.goto (-149), 0, 0)] (38, [some (zr (some (10, o))), some (zr (some (3, o1))), some (zi v2), some (zi v3), none, some (zl ((v5 &&& (h.2.1 (o + 4) (h.1 ((o1 + 5) + (1 + 1 * v2.toNatClampNeg)) v9.toNatClampNeg).toNatClampNeg)) ||| (v7 &&& (h.2.1 (o + 3) (h.1 ((o1 + 5) + (1 + 1 * v2.toNatClampNeg)) v9.toNatClampNeg).toNatClampNeg)))), none, some (zl ((v5 &&& (h.2.1 (o + 3) (h.1 ((o1 + 5) + (1 + 1 * v2.toNatClampNeg)) v9.toNatClampNeg).toNatClampNeg)) ||| (v7 &&& (h.2.1 (o + 4) (h.1 ((o1 + 5) + (1 + 1 * v2.toNatClampNeg)) v9.toNatClampNeg).toNatClampNeg)))), none, some (zi (v9 + 1)), some (zi (h.1 ((o1 + 5) + (1 + 1 * v2.toNatClampNeg)) v9.toNatClampNeg)), some (zl ((v5 &&& (h.2.1 (o + 4) (h.1 ((o1 + 5) + (1 + 1 * v2.toNatClampNeg)) v9.toNatClampNeg).toNatClampNeg)) ||| (v7 &&& (h.2.1 (o + 3) (h.1 ((o1 + 5) + (1 + 1 * v2.toNatClampNeg)) v9.toNatClampNeg).toNatClampNeg)))), none], [], h) (by decide +kernel) rfl ?_
            exact zG_end (L' := [some (zr (some (10, o))), some (zr (some (3, o1))), some (zi v2), some (zi v3), none, some (zl ((v5 &&& (h.2.1 (o + 4) (h.1 ((o1 + 5) + (1 + 1 * v2.toNatClampNeg)) v9.toNatClampNeg).toNatClampNeg)) ||| (v7 &&& (h.2.1 (o + 3) (h.1 ((o1 + 5) + (1 + 1 * v2.toNatClampNeg)) v9.toNatClampNeg).toNatClampNeg)))), none, some (zl ((v5 &&& (h.2.1 (o + 3) (h.1 ((o1 + 5) + (1 + 1 * v2.toNatClampNeg)) v9.toNatClampNeg).toNatClampNeg)) ||| (v7 &&& (h.2.1 (o + 4) (h.1 ((o1 + 5) + (1 + 1 * v2.toNatClampNeg)) v9.toNatClampNeg).toNatClampNeg)))), none, some (zi (v9 + 1)), none, none, none]) rfl (And.intro rfl (And.intro rfl (And.intro rfl (And.intro rfl (And.intro rfl (And.intro rfl (And.intro rfl trivial)))))))
          · exact zG_forget (L' := [some (zr (some (10, o))), some (zr (some (3, o1))), some (zi v2), some (zi v3), none, some (zl v5), none, some (zl v7), none, some (zi v9), some (zi (h.1 ((o1 + 5) + (1 + 1 * v2.toNatClampNeg)) v9.toNatClampNeg)), none, none]) (And.intro rfl (And.intro rfl (And.intro rfl (And.intro rfl (And.intro rfl (And.intro rfl (And.intro rfl (And.intro rfl trivial)))))))) (k_Waves_spreadGate_j107 hl)
      · exact zG_forget (L' := [some (zr (some (10, o))), some (zr (some (3, o1))), some (zi v2), some (zi v3), none, some (zl v5), none, some (zl v7), none, some (zi v9), some (zi (h.1 ((o1 + 5) + (1 + 1 * v2.toNatClampNeg)) v9.toNatClampNeg)), none, none]) (And.intro rfl (And.intro rfl (And.intro rfl (And.intro rfl (And.intro rfl (And.intro rfl (And.intro rfl (And.intro rfl trivial)))))))) (k_Waves_spreadGate_j70 hl)
set_option maxRecDepth 20000 in
theorem k_Waves_spreadGate_j246 {l : Launch} {X : zX} (hl : l.stackTraces = false) {o : Nat} {o1 : Nat} {h : zH} {t0 : Int64} {t1 : Int32} : zGl l m_Waves_spreadGate X 0 0 (f_Waves_spreadGate_j246 o o1 h t0 t1) (246, [none, none, none, none, none, none, none, none, none, none, none, none, none], [zl t0, zi t1, zr (some (43, (o + 4)))], h) (fun x => .inr ((fun a => (.inl none, a) : zH → zF) x)) := by
  unfold f_Waves_spreadGate_j246
  refine zG_guard fun hb26 => ?_
  refine zG_bind (fun y => (247, [none, none, none, none, none, none, none, none, none, none, none, none, none], [], y)) (zG_astc (h' := zsL h (o + 4) t1.toNatClampNeg t0) rfl (by decide +kernel) hb26 rfl (zG_end (L' := [none, none, none, none, none, none, none, none, none, none, none, none, none]) rfl (trivial))) fun h25 => ?_
  exact zG_ret (r := none) rfl (zrd_v rfl (by decide +kernel))
set_option maxRecDepth 20000 in
theorem k_Waves_spreadGate_j228 {l : Launch} {X : zX} (hl : l.stackTraces = false) {o : Nat} {o1 : Nat} {h : zH} {v2 : Int32} {v5 : Int64} {v7 : Int64} {v9 : Int32} {t0 : Int64} {t1 : Int32} : zGl l m_Waves_spreadGate X 0 0 (f_Waves_spreadGate_j228 o o1 h v2 v5 v7 v9 t0 t1) (228, [some (zr (some (10, o))), none, some (zi v2), none, none, some (zl v5), none, some (zl v7), none, some (zi v9), none, none, none], [zl t0, zi t1, zr (some (42, (o + 3)))], h) (fun x => .inr ((fun a => (.inl none, a) : zH → zF) x)) := by
  unfold f_Waves_spreadGate_j228
  refine zG_guard fun hb24 => ?_
  refine zG_bind (fun y => (229, [some (zr (some (10, o))), none, some (zi v2), none, none, some (zl v5), none, some (zl v7), none, some (zi v9), none, none, none], [], y)) (zG_astc (h' := zsL h (o + 3) t1.toNatClampNeg t0) rfl (by decide +kernel) hb24 rfl (zG_end (L' := [some (zr (some (10, o))), none, some (zi v2), none, none, some (zl v5), none, some (zl v7), none, some (zi v9), none, none, none]) rfl (And.intro rfl (And.intro rfl (And.intro rfl (And.intro rfl (And.intro rfl trivial))))))) fun h23 => ?_
  refine zG_run t_Waves [(.aload_n 0, 0, 0), (.getfield 21, 10, 3), (.iload_n 2, 0, 0), (.iload 9, 0, 0)] (236, [some (zr (some (10, o))), none, some (zi v2), none, none, some (zl v5), none, some (zl v7), none, some (zi v9), none, none, none], [zi v9, zi v2, zr (some (43, (o + 4)))], h23) (by decide +kernel) rfl ?_
  refine zG_if (op := .eq) (off := 8) (tgt := 244) (by decide +kernel) rfl Iff.rfl (fun c27 => ?_) (fun c27 => ?_)
  · refine zG_run t_Waves [(.lload 7, 0, 0)] (246, [some (zr (some (10, o))), none, some (zi v2), none, none, some (zl v5), none, some (zl v7), none, some (zi v9), none, none, none], [zl v7, zi v2, zr (some (43, (o + 4)))], h23) (by decide +kernel) rfl ?_
    exact zG_forget (L' := [none, none, none, none, none, none, none, none, none, none, none, none, none]) (trivial) (k_Waves_spreadGate_j246 hl)
  · refine zG_run t_Waves [(.lload 5, 0, 0), (.goto 5, 0, 0)] (246, [some (zr (some (10, o))), none, some (zi v2), none, none, some (zl v5), none, some (zl v7), none, some (zi v9), none, none, none], [zl v5, zi v2, zr (some (43, (o + 4)))], h23) (by decide +kernel) rfl ?_
    exact zG_forget (L' := [none, none, none, none, none, none, none, none, none, none, none, none, none]) (trivial) (k_Waves_spreadGate_j246 hl)
set_option maxRecDepth 20000 in
theorem k_Waves_spreadGate_j209 {l : Launch} {X : zX} (hl : l.stackTraces = false) {o : Nat} {o1 : Nat} {h : zH} {v2 : Int32} {v5 : Int64} {v7 : Int64} {t0 : Int32} : zGl l m_Waves_spreadGate X 0 0 (f_Waves_spreadGate_j209 o o1 h v2 v5 v7 t0) (209, [some (zr (some (10, o))), none, some (zi v2), none, none, some (zl v5), none, some (zl v7), none, none, none, none, none], [zi t0], h) (fun x => .inr ((fun a => (.inl none, a) : zH → zF) x)) := by
  unfold f_Waves_spreadGate_j209
  refine zG_run t_Waves [(.istore 9, 0, 0), (.aload_n 0, 0, 0), (.getfield 18, 10, 2), (.iload_n 2, 0, 0), (.iload 9, 0, 0)] (218, [some (zr (some (10, o))), none, some (zi v2), none, none, some (zl v5), none, some (zl v7), none, some (zi t0), none, none, none], [zi t0, zi v2, zr (some (42, (o + 3)))], h) (by decide +kernel) rfl ?_
  refine zG_if (op := .eq) (off := 8) (tgt := 226) (by decide +kernel) rfl Iff.rfl (fun c28 => ?_) (fun c28 => ?_)
  · refine zG_run t_Waves [(.lload 5, 0, 0)] (228, [some (zr (some (10, o))), none, some (zi v2), none, none, some (zl v5), none, some (zl v7), none, some (zi t0), none, none, none], [zl v5, zi v2, zr (some (42, (o + 3)))], h) (by decide +kernel) rfl ?_
    exact zG_forget (L' := [some (zr (some (10, o))), none, some (zi v2), none, none, some (zl v5), none, some (zl v7), none, some (zi t0), none, none, none]) (And.intro rfl (And.intro rfl (And.intro rfl (And.intro rfl (And.intro rfl trivial))))) (k_Waves_spreadGate_j228 hl)
  · refine zG_run t_Waves [(.lload 7, 0, 0), (.goto 5, 0, 0)] (228, [some (zr (some (10, o))), none, some (zi v2), none, none, some (zl v5), none, some (zl v7), none, some (zi t0), none, none, none], [zl v7, zi v2, zr (some (42, (o + 3)))], h) (by decide +kernel) rfl ?_
    exact zG_forget (L' := [some (zr (some (10, o))), none, some (zi v2), none, none, some (zl v5), none, some (zl v7), none, some (zi t0), none, none, none]) (And.intro rfl (And.intro rfl (And.intro rfl (And.intro rfl (And.intro rfl trivial))))) (k_Waves_spreadGate_j228 hl)
set_option maxRecDepth 20000 in
theorem k_Waves_spreadGate {l : Launch} {X : zX} (hl : l.stackTraces = false) {o : Nat} {o1 : Nat} {h : zH} {v2 : Int32} : zGl l m_Waves_spreadGate X 0 0 (f_Waves_spreadGate o o1 h v2) (0, [some (zr (some (10, o))), some (zr (some (3, o1))), some (zi v2), none, none, none, none, none, none, none, none, none, none], [], h) (fun x => .inr ((fun a => (.inl none, a) : zH → zF) x)) := by
  unfold f_Waves_spreadGate
  refine zG_run t_Waves [(.aload_n 1, 0, 0), (.getfield 40, 3, 9), (.iload_n 2, 0, 0)] (5, [some (zr (some (10, o))), some (zr (some (3, o1))), some (zi v2), none, none, none, none, none, none, none, none, none, none], [zi v2, zr (some (23, (o1 + 3)))], h) (by decide +kernel) rfl ?_
  refine zG_ald (v := zi (h.1 (o1 + 3) v2.toNatClampNeg)) (n := 22) rfl (by decide +kernel) rfl rfl fun hb1 => ?_
  refine zG_run t_Waves [(.istore_n 3, 0, 0), (.aload_n 1, 0, 0), (.getfield 44, 3, 11), (.iload_n 2, 0, 0)] (12, [some (zr (some (10, o))), some (zr (some (3, o1))), some (zi v2), some (zi (h.1 (o1 + 3) v2.toNatClampNeg)), none, none, none, none, none, none, none, none, none], [zi v2, zr (some (25, (o1 + 5)))], h) (by decide +kernel) rfl ?_
  refine zG_ald (v := zr (some (26, ((o1 + 5) + (1 + 1 * v2.toNatClampNeg))))) (n := 22) rfl (by decide +kernel) rfl rfl fun hb2 => ?_
  refine zG_run t_Waves [(.iconst 0, 0, 0)] (14, [some (zr (some (10, o))), some (zr (some (3, o1))), some (zi v2), some (zi (h.1 (o1 + 3) v2.toNatClampNeg)), none, none, none, none, none, none, none, none, none], [zi 0, zr (some (26, ((o1 + 5) + (1 + 1 * v2.toNatClampNeg))))], h) (by decide +kernel) rfl ?_
  refine zG_aldc (v := zi (h.1 ((o1 + 5) + (1 + 1 * v2.toNatClampNeg)) 0)) rfl (by decide +kernel) (by decide +kernel) rfl ?_
  refine zG_run t_Waves [(.istore 4, 0, 0), (.aload_n 0, 0, 0), (.getfield 18, 10, 2), (.iload 4, 0, 0)] (23, [some (zr (some (10, o))), some (zr (some (3, o1))), some (zi v2), some (zi (h.1 (o1 + 3) v2.toNatClampNeg)), some (zi (h.1 ((o1 + 5) + (1 + 1 * v2.toNatClampNeg)) 0)), none, none, none, none, none, none, none, none], [zi (h.1 ((o1 + 5) + (1 + 1 * v2.toNatClampNeg)) 0), zr (some (42, (o + 3)))], h) (by decide +kernel) rfl ?_
  refine zG_ald (v := zl (h.2.1 (o + 3) (h.1 ((o1 + 5) + (1 + 1 * v2.toNatClampNeg)) 0).toNatClampNeg)) (n := 22) rfl (by decide +kernel) rfl rfl fun hb3 => ?_
  refine zG_run t_Waves [(.lstore 5, 0, 0), (.aload_n 0, 0, 0), (.getfield 21, 10, 3), (.iload 4, 0, 0)] (32, [some (zr (some (10, o))), some (zr (some (3, o1))), some (zi v2), some (zi (h.1 (o1 + 3) v2.toNatClampNeg)), some (zi (h.1 ((o1 + 5) + (1 + 1 * v2.toNatClampNeg)) 0)), some (zl (h.2.1 (o + 3) (h.1 ((o1 + 5) + (1 + 1 * v2.toNatClampNeg)) 0).toNatClampNeg)), none, none, none, none, none, none, none], [zi (h.1 ((o1 + 5) + (1 + 1 * v2.toNatClampNeg)) 0), zr (some (43, (o + 4)))], h) (by decide +kernel) rfl ?_
  refine zG_ald (v := zl (h.2.1 (o + 4) (h.1 ((o1 + 5) + (1 + 1 * v2.toNatClampNeg)) 0).toNatClampNeg)) (n := 22) rfl (by decide +kernel) rfl rfl fun hb4 => ?_
  refine zG_run t_Waves [(.lstore 7, 0, 0), (.iconst 1, 0, 0), (.istore 9, 0, 0)] (38, [some (zr (some (10, o))), some (zr (some (3, o1))), some (zi v2), some (zi (h.1 (o1 + 3) v2.toNatClampNeg)), some (zi (h.1 ((o1 + 5) + (1 + 1 * v2.toNatClampNeg)) 0)), some (zl (h.2.1 (o + 3) (h.1 ((o1 + 5) + (1 + 1 * v2.toNatClampNeg)) 0).toNatClampNeg)), none, some (zl (h.2.1 (o + 4) (h.1 ((o1 + 5) + (1 + 1 * v2.toNatClampNeg)) 0).toNatClampNeg)), none, some (zi 1), none, none, none], [], h) (by decide +kernel) rfl ?_
  refine zG_forget (L' := [some (zr (some (10, o))), some (zr (some (3, o1))), some (zi v2), some (zi (h.1 (o1 + 3) v2.toNatClampNeg)), none, some (zl (h.2.1 (o + 3) (h.1 ((o1 + 5) + (1 + 1 * v2.toNatClampNeg)) 0).toNatClampNeg)), none, some (zl (h.2.1 (o + 4) (h.1 ((o1 + 5) + (1 + 1 * v2.toNatClampNeg)) 0).toNatClampNeg)), none, some (zi 1), none, none, none]) (And.intro rfl (And.intro rfl (And.intro rfl (And.intro rfl (And.intro rfl (And.intro rfl (And.intro rfl trivial))))))) ?_
  refine zG_bind (fun y : Int64 × Int64 => (190, [some (zr (some (10, o))), none, some (zi v2), some (zi (h.1 (o1 + 3) v2.toNatClampNeg)), none, some (zl y.1), none, some (zl y.2), none, none, none, none, none], [], h)) (zG_iter (fun s : Int64 × Int64 × Int32 => (38, [some (zr (some (10, o))), some (zr (some (3, o1))), some (zi v2), some (zi (h.1 (o1 + 3) v2.toNatClampNeg)), none, some (zl s.1), none, some (zl s.2.1), none, some (zi s.2.2), none, none, none], [], h)) fun s => k_Waves_spreadGate_b38 hl) (fun y22 => ?_)
  refine zG_run t_Waves [(.iload_n 3, 0, 0)] (191, [some (zr (some (10, o))), none, some (zi v2), some (zi (h.1 (o1 + 3) v2.toNatClampNeg)), none, some (zl y22.1), none, some (zl y22.2), none, none, none, none, none], [zi (h.1 (o1 + 3) v2.toNatClampNeg)], h) (by decide +kernel) rfl ?_
  refine zG_if (op := .eq) (off := 13) (tgt := 204) (by decide +kernel) rfl Iff.rfl (fun c31 => ?_) (fun c31 => ?_)
  · refine zG_run t_Waves [(.iconst 1, 0, 0), (.goto 4, 0, 0)] (209, [some (zr (some (10, o))), none, some (zi v2), some (zi (h.1 (o1 + 3) v2.toNatClampNeg)), none, some (zl y22.1), none, some (zl y22.2), none, none, none, none, none], [zi 1], h) (by decide +kernel) rfl ?_
    exact zG_forget (L' := [some (zr (some (10, o))), none, some (zi v2), none, none, some (zl y22.1), none, some (zl y22.2), none, none, none, none, none]) (And.intro rfl (And.intro rfl (And.intro rfl (And.intro rfl trivial)))) (k_Waves_spreadGate_j209 hl)
  · refine zG_run t_Waves [(.iload_n 3, 0, 0), (.iconst 4, 0, 0)] (196, [some (zr (some (10, o))), none, some (zi v2), some (zi (h.1 (o1 + 3) v2.toNatClampNeg)), none, some (zl y22.1), none, some (zl y22.2), none, none, none, none, none], [zi 4, zi (h.1 (o1 + 3) v2.toNatClampNeg)], h) (by decide +kernel) rfl ?_
    refine zG_icmp (op := .eq) (off := 8) (tgt := 204) (by decide +kernel) rfl Iff.rfl (fun c30 => ?_) (fun c30 => ?_)
    · refine zG_run t_Waves [(.iconst 1, 0, 0), (.goto 4, 0, 0)] (209, [some (zr (some (10, o))), none, some (zi v2), some (zi (h.1 (o1 + 3) v2.toNatClampNeg)), none, some (zl y22.1), none, some (zl y22.2), none, none, none, none, none], [zi 1], h) (by decide +kernel) rfl ?_
      exact zG_forget (L' := [some (zr (some (10, o))), none, some (zi v2), none, none, some (zl y22.1), none, some (zl y22.2), none, none, none, none, none]) (And.intro rfl (And.intro rfl (And.intro rfl (And.intro rfl trivial)))) (k_Waves_spreadGate_j209 hl)
    · refine zG_run t_Waves [(.iload_n 3, 0, 0), (.iconst 5, 0, 0)] (201, [some (zr (some (10, o))), none, some (zi v2), some (zi (h.1 (o1 + 3) v2.toNatClampNeg)), none, some (zl y22.1), none, some (zl y22.2), none, none, none, none, none], [zi 5, zi (h.1 (o1 + 3) v2.toNatClampNeg)], h) (by decide +kernel) rfl ?_
      refine zG_icmp (op := .ne) (off := 7) (tgt := 208) (by decide +kernel) rfl Iff.rfl (fun c29 => ?_) (fun c29 => ?_)
      · refine zG_run t_Waves [(.iconst 0, 0, 0)] (209, [some (zr (some (10, o))), none, some (zi v2), some (zi (h.1 (o1 + 3) v2.toNatClampNeg)), none, some (zl y22.1), none, some (zl y22.2), none, none, none, none, none], [zi 0], h) (by decide +kernel) rfl ?_
        exact zG_forget (L' := [some (zr (some (10, o))), none, some (zi v2), none, none, some (zl y22.1), none, some (zl y22.2), none, none, none, none, none]) (And.intro rfl (And.intro rfl (And.intro rfl (And.intro rfl trivial)))) (k_Waves_spreadGate_j209 hl)
      · refine zG_run t_Waves [(.iconst 1, 0, 0), (.goto 4, 0, 0)] (209, [some (zr (some (10, o))), none, some (zi v2), some (zi (h.1 (o1 + 3) v2.toNatClampNeg)), none, some (zl y22.1), none, some (zl y22.2), none, none, none, none, none], [zi 1], h) (by decide +kernel) rfl ?_
        exact zG_forget (L' := [some (zr (some (10, o))), none, some (zi v2), none, none, some (zl y22.1), none, some (zl y22.2), none, none, none, none, none]) (And.intro rfl (And.intro rfl (And.intro rfl (And.intro rfl trivial)))) (k_Waves_spreadGate_j209 hl)
theorem c_Waves_spreadGate {l : Launch} {X : zX} (hl : l.stackTraces = false) {o : Nat} {o1 : Nat} {h : zH} {v2 : Int32} {x : zH} (hx : f_Waves_spreadGate o o1 h v2 = some x) : zCt l (true, 2) 2 m_Waves_spreadGate X 0 0 [zr (some (10, o)), zr (some (3, o1)), zi v2] h ((fun a => (.inl none, a) : zH → zF) x) :=
  zG_ct (R := fun a => (.inl none, a)) (x := x) ok_Waves_spreadGate hl (Nat.le_of_ble_eq_true rfl) hx (k_Waves_spreadGate hl)
def m_Waves_spread : zM := (({ cls := "ScanPacker$Waves", name := "spread", desc := "(LScanPacker$Net;I)V" } : Jvm.MethodName), prog_11_method_5_code, 5, (Option.none : Option Jvm.ClassFile.FieldType), [], 2)
theorem ok_Waves_spread : zMok m_Waves_spread := ⟨by decide +kernel, zW_of 598 (by decide +kernel) (by decide +kernel), zW_of 127 (by decide +kernel) (by decide +kernel), by decide, by decide +kernel, by decide +kernel⟩
set_option maxRecDepth 20000 in
theorem k_Waves_spread_j51 {l : Launch} {X : zX} (hl : l.stackTraces = false) {o : Nat} {o1 : Nat} {h : zH} {v2 : Int32} {v3 : Int32} {v4 : Int32} {t0 : Int64} {t1 : Int32} : zGl l m_Waves_spread X 0 0 (f_Waves_spread_j51 o o1 h v2 v3 v4 t0 t1) (51, [some (zr (some (10, o))), some (zr (some (3, o1))), some (zi v2), some (zi v3), some (zi v4)], [zl t0, zi t1, zr (some (42, (o + 3)))], h) (Sum.elim (fun s : Int32 × zH => .inl (16, [some (zr (some (10, o))), some (zr (some (3, o1))), some (zi v2), some (zi v3), some (zi s.1)], [], s.2)) (fun y : zH => .inl (126, [none, none, none, none, none], [], y))) := by
  unfold f_Waves_spread_j51
  refine zG_guard fun hb11 => ?_
  refine zG_bind (fun y => (52, [some (zr (some (10, o))), some (zr (some (3, o1))), some (zi v2), some (zi v3), some (zi v4)], [], y)) (zG_astc (h' := zsL h (o + 3) t1.toNatClampNeg t0) rfl (by decide +kernel) hb11 rfl (zG_end (L' := [some (zr (some (10, o))), some (zr (some (3, o1))), some (zi v2), some (zi v3), some (zi v4)]) rfl (And.intro rfl (And.intro rfl (And.intro rfl (And.intro rfl (And.intro rfl trivial))))))) fun h10 => ?_
  refine zG_run t_Waves [(.aload_n 0, 0, 0), (.getfield 21, 10, 3), (.iload 4, 0, 0), (.aload_n 0, 0, 0), (.getfield 18, 10, 2), (.iload 4, 0, 0)] (64, [some (zr (some (10, o))), some (zr (some (3, o1))), some (zi v2), some (zi v3), some (zi v4)], [zi v4, zr (some (42, (o + 3))), zi v4, zr (some (43, (o + 4)))], h10) (by decide +kernel) rfl ?_
  refine zG_ald (v := zl (h10.2.1 (o + 3) v4.toNatClampNeg)) (n := 22) rfl (by decide +kernel) rfl rfl fun hb12 => ?_
  refine zG_ldc2 (v := (-1)) (by decide +kernel) w_115 ?_
  refine zG_run t_Waves [(.lxor, 0, 0)] (69, [some (zr (some (10, o))), some (zr (some (3, o1))), some (zi v2), some (zi v3), some (zi v4)], [zl ((h10.2.1 (o + 3) v4.toNatClampNeg) ^^^ (-1)), zi v4, zr (some (43, (o + 4)))], h10) (by decide +kernel) rfl ?_
  refine zG_guard fun hb14 => ?_
  refine zG_bind (fun y => (70, [some (zr (some (10, o))), some (zr (some (3, o1))), some (zi v2), some (zi v3), some (zi v4)], [], y)) (zG_astc (h' := zsL h10 (o + 4) v4.toNatClampNeg ((h10.2.1 (o + 3) v4.toNatClampNeg) ^^^ (-1))) rfl (by decide +kernel) hb14 rfl (zG_end (L' := [some (zr (some (10, o))), some (zr (some (3, o1))), some (zi v2), some (zi v3), some (zi v4)]) rfl (And.intro rfl (And.intro rfl (And.intro rfl (And.intro rfl (And.intro rfl trivial))))))) fun h13 => ?_
  refine zG_run t_Waves [(.goto 50, 0, 0), (.iinc 4 1, 0, 0), (.goto (-107), 0, 0)] (16, [some (zr (some (10, o))), some (zr (some (3, o1))), some (zi v2), some (zi v3), some (zi (v4 + 1))], [], h13) (by decide +kernel) rfl ?_
  exact zG_end (L' := [some (zr (some (10, o))), some (zr (some (3, o1))), some (zi v2), some (zi v3), some (zi (v4 + 1))]) rfl (And.intro rfl (And.intro rfl (And.intro rfl (And.intro rfl (And.intro rfl trivial)))))
set_option maxRecDepth 20000 in
theorem k_Waves_spread_b16 {l : Launch} {X : zX} (hl : l.stackTraces = false) {o : Nat} {o1 : Nat} {h : zH} {v2 : Int32} {v3 : Int32} {v4 : Int32} : zGl l m_Waves_spread X 0 0 (f_Waves_spread_b16 o o1 h v2 v3 v4) (16, [some (zr (some (10, o))), some (zr (some (3, o1))), some (zi v2), some (zi v3), some (zi v4)], [], h) (Sum.elim (fun s : Int32 × zH => .inl (16, [some (zr (some (10, o))), some (zr (some (3, o1))), some (zi v2), some (zi v3), some (zi s.1)], [], s.2)) (fun y : zH => .inl (126, [none, none, none, none, none], [], y))) := by
  unfold f_Waves_spread_b16
  refine zG_run t_Waves [(.iload 4, 0, 0), (.aload_n 1, 0, 0)] (19, [some (zr (some (10, o))), some (zr (some (3, o1))), some (zi v2), some (zi v3), some (zi v4)], [zr (some (3, o1)), zi v4], h) (by decide +kernel) rfl ?_
  refine zG_callV (idx := 24) (R := (fun a => (some (zi a), h))) (as := []) (rest := [zi v4]) (n := 0) (fun a ha => c_Net_lines hl ha) (by decide +kernel) ⟨ok_Net_lines, by decide, by decide +kernel⟩ rfl w_111 w_35 w_36 (by decide) rfl rfl rfl (Nat.le_of_ble_eq_true rfl) fun x1 => ?_
  refine zG_icmp (op := .ge) (off := 104) (tgt := 126) (by decide +kernel) rfl Iff.rfl (fun c17 => ?_) (fun c17 => ?_)
  · exact zG_end (L' := [none, none, none, none, none]) rfl (trivial)
  · refine zG_run t_Waves [(.iload 4, 0, 0), (.iload_n 3, 0, 0)] (28, [some (zr (some (10, o))), some (zr (some (3, o1))), some (zi v2), some (zi v3), some (zi v4)], [zi v3, zi v4], h) (by decide +kernel) rfl ?_
    refine zG_icmp (op := .ne) (off := 45) (tgt := 73) (by decide +kernel) rfl Iff.rfl (fun c16 => ?_) (fun c16 => ?_)
    · refine zG_run t_Waves [(.iload 4, 0, 0), (.aload_n 1, 0, 0), (.getfield 32, 3, 0)] (79, [some (zr (some (10, o))), some (zr (some (3, o1))), some (zi v2), some (zi v3), some (zi v4)], [zi (h.1 o1 0), zi v4], h) (by decide +kernel) rfl ?_
      refine zG_icmp (op := .ge) (off := 34) (tgt := 113) (by decide +kernel) rfl Iff.rfl (fun c9 => ?_) (fun c9 => ?_)
      · refine zG_run t_Waves [(.aload_n 0, 0, 0), (.aload_n 1, 0, 0), (.iload 4, 0, 0)] (117, [some (zr (some (10, o))), some (zr (some (3, o1))), some (zi v2), some (zi v3), some (zi v4)], [zi v4, zr (some (3, o1)), zr (some (10, o))], h) (by decide +kernel) rfl ?_
        refine zG_callV (idx := 36) (R := (fun a => (none, a))) (as := [zr (some (3, o1)), zi v4]) (rest := []) (n := 2) (fun a ha => c_Waves_spreadGate hl ha) (by decide +kernel) ⟨ok_Waves_spreadGate, by decide, by decide +kernel⟩ rfl w_112 w_113 w_114 (by decide) rfl rfl rfl (Nat.le_of_ble_eq_true rfl) fun x2 => ?_
        refine zG_run t_Waves [(.iinc 4 1, 0, 0), (.goto (-107), 0, 0)] (16, [some (zr (some (10, o))), some (zr (some (3, o1))), some (zi v2), some (zi v3), some (zi (v4 + 1))], [], x2) (by decide +kernel) rfl ?_
        exact zG_end (L' := [some (zr (some (10, o))), some (zr (some (3, o1))), some (zi v2), some (zi v3), some (zi (v4 + 1))]) rfl (And.intro rfl (And.intro rfl (And.intro rfl (And.intro rfl (And.intro rfl trivial)))))
      · refine zG_run t_Waves [(.aload_n 0, 0, 0), (.getfield 18, 10, 2), (.iload 4, 0, 0), (.aload_n 0, 0, 0), (.getfield 9, 10, 0), (.iload 4, 0, 0)] (94, [some (zr (some (10, o))), some (zr (some (3, o1))), some (zi v2), some (zi v3), some (zi v4)], [zi v4, zr (some (40, (o + 1))), zi v4, zr (some (42, (o + 3)))], h) (by decide +kernel) rfl ?_
        refine zG_ald (v := zl (h.2.1 (o + 1) v4.toNatClampNeg)) (n := 6) rfl (by decide +kernel) rfl rfl fun hb3 => ?_
        refine zG_guard fun hb5 => ?_
        refine zG_bind (fun y => (96, [some (zr (some (10, o))), some (zr (some (3, o1))), some (zi v2), some (zi v3), some (zi v4)], [], y)) (zG_astc (h' := zsL h (o + 3) v4.toNatClampNeg (h.2.1 (o + 1) v4.toNatClampNeg)) rfl (by decide +kernel) hb5 rfl (zG_end (L' := [some (zr (some (10, o))), some (zr (some (3, o1))), some (zi v2), some (zi v3), some (zi v4)]) rfl (And.intro rfl (And.intro rfl (And.intro rfl (And.intro rfl (And.intro rfl trivial))))))) fun h4 => ?_
        refine zG_run t_Waves [(.aload_n 0, 0, 0), (.getfield 21, 10, 3), (.iload 4, 0, 0), (.aload_n 0, 0, 0), (.getfield 15, 10, 1), (.iload 4, 0, 0)] (108, [some (zr (some (10, o))), some (zr (some (3, o1))), some (zi v2), some (zi v3), some (zi v4)], [zi v4, zr (some (41, (o + 2))), zi v4, zr (some (43, (o + 4)))], h4) (by decide +kernel) rfl ?_
        refine zG_ald (v := zl (h4.2.1 (o + 2) v4.toNatClampNeg)) (n := 6) rfl (by decide +kernel) rfl rfl fun hb6 => ?_
        refine zG_guard fun hb8 => ?_
        refine zG_bind (fun y => (110, [some (zr (some (10, o))), some (zr (some (3, o1))), some (zi v2), some (zi v3), some (zi v4)], [], y)) (zG_astc (h' := zsL h4 (o + 4) v4.toNatClampNeg (h4.2.1 (o + 2) v4.toNatClampNeg)) rfl (by decide +kernel) hb8 rfl (zG_end (L' := [some (zr (some (10, o))), some (zr (some (3, o1))), some (zi v2), some (zi v3), some (zi v4)]) rfl (And.intro rfl (And.intro rfl (And.intro rfl (And.intro rfl (And.intro rfl trivial))))))) fun h7 => ?_
        refine zG_run t_Waves [(.goto 10, 0, 0), (.iinc 4 1, 0, 0), (.goto (-107), 0, 0)] (16, [some (zr (some (10, o))), some (zr (some (3, o1))), some (zi v2), some (zi v3), some (zi (v4 + 1))], [], h7) (by decide +kernel) rfl ?_
        exact zG_end (L' := [some (zr (some (10, o))), some (zr (some (3, o1))), some (zi v2), some (zi v3), some (zi (v4 + 1))]) rfl (And.intro rfl (And.intro rfl (And.intro rfl (And.intro rfl (And.intro rfl trivial)))))
    · refine zG_run t_Waves [(.aload_n 0, 0, 0), (.getfield 18, 10, 2), (.iload 4, 0, 0), (.iload_n 2, 0, 0), (.iconst 2, 0, 0)] (39, [some (zr (some (10, o))), some (zr (some (3, o1))), some (zi v2), some (zi v3), some (zi v4)], [zi 2, zi v2, zi v4, zr (some (42, (o + 3)))], h) (by decide +kernel) rfl ?_
      refine zG_iremc (by decide +kernel) (by decide) ?_
      refine zG_run t_Waves [(.iconst 1, 0, 0)] (41, [some (zr (some (10, o))), some (zr (some (3, o1))), some (zi v2), some (zi v3), some (zi v4)], [zi 1, zi (zrem v2 2), zi v4, zr (some (42, (o + 3)))], h) (by decide +kernel) rfl ?_
      refine zG_icmp (op := .ne) (off := 9) (tgt := 50) (by decide +kernel) rfl Iff.rfl (fun c15 => ?_) (fun c15 => ?_)
      · refine zG_run t_Waves [(.lconst 0, 0, 0)] (51, [some (zr (some (10, o))), some (zr (some (3, o1))), some (zi v2), some (zi v3), some (zi v4)], [zl 0, zi v4, zr (some (42, (o + 3)))], h) (by decide +kernel) rfl ?_
        exact zG_forget (L' := [some (zr (some (10, o))), some (zr (some (3, o1))), some (zi v2), some (zi v3), some (zi v4)]) (And.intro rfl (And.intro rfl (And.intro rfl (And.intro rfl (And.intro rfl trivial))))) (k_Waves_spread_j51 hl)
      · refine zG_ldc2 (v := (-1)) (by decide +kernel) w_115 ?_
        refine zG_run t_Waves [(.goto 4, 0, 0)] (51, [some (zr (some (10, o))), some (zr (some (3, o1))), some (zi v2), some (zi v3), some (zi v4)], [zl (-1), zi v4, zr (some (42, (o + 3)))], h) (by decide +kernel) rfl ?_
        exact zG_forget (L' := [some (zr (some (10, o))), some (zr (some (3, o1))), some (zi v2), some (zi v3), some (zi v4)]) (And.intro rfl (And.intro rfl (And.intro rfl (And.intro rfl (And.intro rfl trivial))))) (k_Waves_spread_j51 hl)
set_option maxRecDepth 20000 in
theorem k_Waves_spread_j12 {l : Launch} {X : zX} (hl : l.stackTraces = false) {o : Nat} {o1 : Nat} {h : zH} {v2 : Int32} {t0 : Int32} : zGl l m_Waves_spread X 0 0 (f_Waves_spread_j12 o o1 h v2 t0) (12, [some (zr (some (10, o))), some (zr (some (3, o1))), some (zi v2), none, none], [zi t0], h) (fun x => .inr ((fun a => (.inl none, a) : zH → zF) x)) := by
  unfold f_Waves_spread_j12
  refine zG_run t_Waves [(.istore_n 3, 0, 0), (.iconst 0, 0, 0), (.istore 4, 0, 0)] (16, [some (zr (some (10, o))), some (zr (some (3, o1))), some (zi v2), some (zi t0), some (zi 0)], [], h) (by decide +kernel) rfl ?_
  refine zG_forget (L' := [some (zr (some (10, o))), some (zr (some (3, o1))), some (zi v2), some (zi t0), some (zi 0)]) (And.intro rfl (And.intro rfl (And.intro rfl (And.intro rfl (And.intro rfl trivial))))) ?_
  refine zG_bind (fun y : zH => (126, [none, none, none, none, none], [], y)) (zG_iter (fun s : Int32 × zH => (16, [some (zr (some (10, o))), some (zr (some (3, o1))), some (zi v2), some (zi t0), some (zi s.1)], [], s.2)) fun s => k_Waves_spread_b16 hl) (fun y19 => ?_)
  exact zG_ret (r := none) rfl (zrd_v rfl (by decide +kernel))
set_option maxRecDepth 20000 in
theorem k_Waves_spread {l : Launch} {X : zX} (hl : l.stackTraces = false) {o : Nat} {o1 : Nat} {h : zH} {v2 : Int32} : zGl l m_Waves_spread X 0 0 (f_Waves_spread o o1 h v2) (0, [some (zr (some (10, o))), some (zr (some (3, o1))), some (zi v2), none, none], [], h) (fun x => .inr ((fun a => (.inl none, a) : zH → zF) x)) := by
  unfold f_Waves_spread
  refine zG_run t_Waves [(.iload_n 2, 0, 0), (.iconst (-1), 0, 0)] (2, [some (zr (some (10, o))), some (zr (some (3, o1))), some (zi v2), none, none], [zi (-1), zi v2], h) (by decide +kernel) rfl ?_
  refine zG_icmp (op := .ne) (off := 7) (tgt := 9) (by decide +kernel) rfl Iff.rfl (fun c20 => ?_) (fun c20 => ?_)
  · refine zG_run t_Waves [(.iload_n 2, 0, 0), (.iconst 2, 0, 0)] (11, [some (zr (some (10, o))), some (zr (some (3, o1))), some (zi v2), none, none], [zi 2, zi v2], h) (by decide +kernel) rfl ?_
    refine zG_idivc (by decide +kernel) (by decide) ?_
    exact zG_forget (L' := [some (zr (some (10, o))), some (zr (some (3, o1))), some (zi v2), none, none]) (And.intro rfl (And.intro rfl (And.intro rfl trivial))) (k_Waves_spread_j12 hl)
  · refine zG_run t_Waves [(.iconst (-1), 0, 0), (.goto 6, 0, 0)] (12, [some (zr (some (10, o))), some (zr (some (3, o1))), some (zi v2), none, none], [zi (-1)], h) (by decide +kernel) rfl ?_
    exact zG_forget (L' := [some (zr (some (10, o))), some (zr (some (3, o1))), some (zi v2), none, none]) (And.intro rfl (And.intro rfl (And.intro rfl trivial))) (k_Waves_spread_j12 hl)
theorem c_Waves_spread {l : Launch} {X : zX} (hl : l.stackTraces = false) {o : Nat} {o1 : Nat} {h : zH} {v2 : Int32} {x : zH} (hx : f_Waves_spread o o1 h v2 = some x) : zCt l (true, 2) 2 m_Waves_spread X 0 0 [zr (some (10, o)), zr (some (3, o1)), zi v2] h ((fun a => (.inl none, a) : zH → zF) x) :=
  zG_ct (R := fun a => (.inl none, a)) (x := x) ok_Waves_spread hl (Nat.le_of_ble_eq_true rfl) hx (k_Waves_spread hl)
