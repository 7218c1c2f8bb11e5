/-! methods, by wip/whole/gen.py -/
def m_Tape_append : zM := (({ cls := "ScanPacker$Tape", name := "append", desc := "(I)V" } : Jvm.MethodName), prog_10_method_2_code, 3, (Option.none : Option Jvm.ClassFile.FieldType), [], 1)
theorem ok_Tape_append : zMok m_Tape_append := ⟨by decide +kernel, zW_of 709 (by decide +kernel) (by decide +kernel), zW_of 124 (by decide +kernel) (by decide +kernel), by decide, by decide +kernel, by decide +kernel⟩
set_option maxRecDepth 20000 in
theorem k_Tape_append_b3 {l : Launch} {X : zX} (hl : l.stackTraces = false) {h : zH} {v1 : Int32} {v2 : Int32} : zGl l m_Tape_append X 0 0 (f_Tape_append_b3 h v1 v2) (3, [some (zr (some (9, 2))), some (zi v1), some (zi v2)], [], h) (Sum.elim (fun s : Int32 × zH => .inl (3, [some (zr (some (9, 2))), some (zi v1), some (zi s.1)], [], s.2)) (fun y : zH => .inl (46, [none, none, none], [], y))) := by
  unfold f_Tape_append_b3
  refine zG_run t_Tape [(.iload_n 2, 0, 0)] (4, [some (zr (some (9, 2))), some (zi v1), some (zi v2)], [zi v2], h) (by decide +kernel) rfl ?_
  refine zG_if (op := .lt) (off := 42) (tgt := 46) (by decide +kernel) rfl Iff.rfl (fun c5 => ?_) (fun c5 => ?_)
  · exact zG_end (L' := [none, none, none]) rfl (trivial)
  · refine zG_run t_Tape [(.aload_n 0, 0, 0), (.getfield 15, 9, 1), (.sipush 900, 0, 0)] (14, [some (zr (some (9, 2))), some (zi v1), some (zi v2)], [zi 900, zi (h.1 2 1)], h) (by decide +kernel) rfl ?_
    refine zG_icmp (op := .ge) (off := 32) (tgt := 46) (by decide +kernel) rfl Iff.rfl (fun c4 => ?_) (fun c4 => ?_)
    · exact zG_end (L' := [none, none, none]) rfl (trivial)
    · refine zG_run t_Tape [(.aload_n 0, 0, 0), (.getfield 9, 9, 0), (.aload_n 0, 0, 0), (.getfield 15, 9, 1), (.iload_n 1, 0, 0), (.iload_n 2, 0, 0), (.iushr, 0, 0), (.i2b, 0, 0)] (29, [some (zr (some (9, 2))), some (zi v1), some (zi v2)], [zi ((zushr v1 v2).toInt8.toInt32), zi (h.1 2 1), zr (some (20, 3))], h) (by decide +kernel) rfl ?_
      refine zG_guard fun hb2 => ?_
      refine zG_bind (fun y => (30, [some (zr (some (9, 2))), some (zi v1), some (zi v2)], [], y)) (zG_astc (h' := zsI h 3 (h.1 2 1).toNatClampNeg (((zushr v1 v2).toInt8.toInt32).toInt8.toInt32)) rfl (by decide +kernel) hb2 rfl (zG_end (L' := [some (zr (some (9, 2))), some (zi v1), some (zi v2)]) rfl (And.intro rfl (And.intro rfl (And.intro rfl trivial))))) fun h1 => ?_
      refine zG_bind (fun y => (40, [some (zr (some (9, 2))), some (zi v1), some (zi v2)], [], y)) (zG_run t_Tape [(.aload_n 0, 0, 0), (.dup, 0, 0), (.getfield 15, 9, 1), (.iconst 1, 0, 0), (.iadd, 0, 0), (.putfield 15, 9, 1)] (40, [some (zr (some (9, 2))), some (zi v1), some (zi v2)], [], zsI h1 2 1 ((h1.1 2 1) + 1)) (by decide +kernel) rfl (zG_end (L' := [some (zr (some (9, 2))), some (zi v1), some (zi v2)]) rfl (And.intro rfl (And.intro rfl (And.intro rfl trivial))))) fun h3 => ?_
      refine zG_run t_Tape [(.iinc 2 (-8), 0, 0), (.goto (-40), 0, 0)] (3, [some (zr (some (9, 2))), some (zi v1), some (zi (v2 + (-8)))], [], h3) (by decide +kernel) rfl ?_
      exact zG_end (L' := [some (zr (some (9, 2))), some (zi v1), some (zi (v2 + (-8)))]) rfl (And.intro rfl (And.intro rfl (And.intro rfl trivial)))
set_option maxRecDepth 20000 in
theorem k_Tape_append {l : Launch} {X : zX} (hl : l.stackTraces = false) {h : zH} {v1 : Int32} : zGl l m_Tape_append X 0 0 (f_Tape_append h v1) (0, [some (zr (some (9, 2))), some (zi v1), none], [], h) (fun x => .inr ((fun a => (.inl none, a) : zH → zF) x)) := by
  unfold f_Tape_append
  refine zG_run t_Tape [(.bipush 24, 0, 0), (.istore_n 2, 0, 0)] (3, [some (zr (some (9, 2))), some (zi v1), some (zi 24)], [], h) (by decide +kernel) rfl ?_
  refine zG_forget (L' := [some (zr (some (9, 2))), some (zi v1), some (zi 24)]) (And.intro rfl (And.intro rfl (And.intro rfl trivial))) ?_
  refine zG_bind (fun y : zH => (46, [none, none, none], [], y)) (zG_iter (fun s : Int32 × zH => (3, [some (zr (some (9, 2))), some (zi v1), some (zi s.1)], [], s.2)) fun s => k_Tape_append_b3 hl) (fun y7 => ?_)
  exact zG_ret (r := none) rfl (zrd_v rfl (by decide +kernel))
theorem c_Tape_append {l : Launch} {X : zX} (hl : l.stackTraces = false) {h : zH} {v1 : Int32} {x : zH} (hx : f_Tape_append h v1 = some x) : zCt l (true, 2) 2 m_Tape_append X 0 0 [zr (some (9, 2)), zi v1] h ((fun a => (.inl none, a) : zH → zF) x) :=
  zG_ct (R := fun a => (.inl none, a)) (x := x) ok_Tape_append hl (Nat.le_of_ble_eq_true rfl) hx (k_Tape_append hl)
def m_Main_feed : zM := (({ cls := "ScanPacker", name := "feed", desc := "(IIIII)I" } : Jvm.MethodName), prog_1_method_2_code, 7, (Option.some Jvm.ClassFile.FieldType.int), [], 2)
theorem ok_Main_feed : zMok m_Main_feed := ⟨by decide +kernel, zW_of 705 (by decide +kernel) (by decide +kernel), zW_of 122 (by decide +kernel) (by decide +kernel), by decide, by decide +kernel, by decide +kernel⟩
set_option maxRecDepth 20000 in
theorem k_Main_feed {l : Launch} {X : zX} (hl : l.stackTraces = false) {h : zH} {v1 : Int32} {v2 : Int32} {v3 : Int32} {v4 : Int32} {v5 : Int32} : zGl l m_Main_feed X 0 0 (f_Main_feed h v1 v2 v3 v4 v5) (0, [some (zr (some (0, 0))), some (zi v1), some (zi v2), some (zi v3), some (zi v4), some (zi v5), none], [], h) (fun x => .inr ((fun a => (.inl (some (zi a.1)), a.2) : Int32 × zH → zF) x)) := by
  unfold f_Main_feed
  refine zG_run t_Main [(.aload_n 0, 0, 0), (.getfield 12, 0, 0), (.getfield 79, 5, 0), (.astore 6, 0, 0), (.aload 6, 0, 0), (.getfield 83, 9, 1), (.bipush 20, 0, 0), (.iadd, 0, 0), (.sipush 900, 0, 0)] (20, [some (zr (some (0, 0))), some (zi v1), some (zi v2), some (zi v3), some (zi v4), some (zi v5), some (zr (some (9, 2)))], [zi 900, zi ((h.1 2 1) + 20)], h) (by decide +kernel) rfl ?_
  refine zG_icmp (op := .le) (off := 5) (tgt := 25) (by decide +kernel) rfl Iff.rfl (fun c6 => ?_) (fun c6 => ?_)
  · refine zG_run t_Main [(.aload 6, 0, 0), (.iload_n 1, 0, 0)] (28, [some (zr (some (0, 0))), some (zi v1), some (zi v2), some (zi v3), some (zi v4), some (zi v5), some (zr (some (9, 2)))], [zi v1, zr (some (9, 2))], h) (by decide +kernel) rfl ?_
    refine zG_callV (idx := 88) (R := (fun a => (none, a))) (as := [zi v1]) (rest := []) (n := 1) (fun a ha => c_Tape_append hl ha) (by decide +kernel) ⟨ok_Tape_append, by decide, by decide +kernel⟩ rfl w_0 w_1 w_2 (by decide) rfl rfl rfl (Nat.le_of_ble_eq_true rfl) fun x1 => ?_
    refine zG_run t_Main [(.aload 6, 0, 0), (.iload_n 2, 0, 0)] (34, [some (zr (some (0, 0))), some (zi v1), some (zi v2), some (zi v3), some (zi v4), some (zi v5), some (zr (some (9, 2)))], [zi v2, zr (some (9, 2))], x1) (by decide +kernel) rfl ?_
    refine zG_callV (idx := 88) (R := (fun a => (none, a))) (as := [zi v2]) (rest := []) (n := 1) (fun a ha => c_Tape_append hl ha) (by decide +kernel) ⟨ok_Tape_append, by decide, by decide +kernel⟩ rfl w_0 w_1 w_2 (by decide) rfl rfl rfl (Nat.le_of_ble_eq_true rfl) fun x2 => ?_
    refine zG_run t_Main [(.aload 6, 0, 0), (.iload_n 3, 0, 0)] (40, [some (zr (some (0, 0))), some (zi v1), some (zi v2), some (zi v3), some (zi v4), some (zi v5), some (zr (some (9, 2)))], [zi v3, zr (some (9, 2))], x2) (by decide +kernel) rfl ?_
    refine zG_callV (idx := 88) (R := (fun a => (none, a))) (as := [zi v3]) (rest := []) (n := 1) (fun a ha => c_Tape_append hl ha) (by decide +kernel) ⟨ok_Tape_append, by decide, by decide +kernel⟩ rfl w_0 w_1 w_2 (by decide) rfl rfl rfl (Nat.le_of_ble_eq_true rfl) fun x3 => ?_
    refine zG_run t_Main [(.aload 6, 0, 0), (.iload 4, 0, 0)] (47, [some (zr (some (0, 0))), some (zi v1), some (zi v2), some (zi v3), some (zi v4), some (zi v5), some (zr (some (9, 2)))], [zi v4, zr (some (9, 2))], x3) (by decide +kernel) rfl ?_
    refine zG_callV (idx := 88) (R := (fun a => (none, a))) (as := [zi v4]) (rest := []) (n := 1) (fun a ha => c_Tape_append hl ha) (by decide +kernel) ⟨ok_Tape_append, by decide, by decide +kernel⟩ rfl w_0 w_1 w_2 (by decide) rfl rfl rfl (Nat.le_of_ble_eq_true rfl) fun x4 => ?_
    refine zG_run t_Main [(.aload 6, 0, 0), (.iload 5, 0, 0)] (54, [some (zr (some (0, 0))), some (zi v1), some (zi v2), some (zi v3), some (zi v4), some (zi v5), some (zr (some (9, 2)))], [zi v5, zr (some (9, 2))], x4) (by decide +kernel) rfl ?_
    refine zG_callV (idx := 88) (R := (fun a => (none, a))) (as := [zi v5]) (rest := []) (n := 1) (fun a ha => c_Tape_append hl ha) (by decide +kernel) ⟨ok_Tape_append, by decide, by decide +kernel⟩ rfl w_0 w_1 w_2 (by decide) rfl rfl rfl (Nat.le_of_ble_eq_true rfl) fun x5 => ?_
    refine zG_run t_Main [(.aload 6, 0, 0), (.getfield 83, 9, 1)] (62, [some (zr (some (0, 0))), some (zi v1), some (zi v2), some (zi v3), some (zi v4), some (zi v5), some (zr (some (9, 2)))], [zi (x5.1 2 1)], x5) (by decide +kernel) rfl ?_
    exact zG_ret (r := some (zi (x5.1 2 1))) rfl (zrd_i rfl (by decide +kernel))
  · refine zG_run t_Main [(.iconst (-1), 0, 0)] (24, [some (zr (some (0, 0))), some (zi v1), some (zi v2), some (zi v3), some (zi v4), some (zi v5), some (zr (some (9, 2)))], [zi (-1)], h) (by decide +kernel) rfl ?_
    exact zG_ret (r := some (zi (-1))) rfl (zrd_i rfl (by decide +kernel))
theorem c_Main_feed {l : Launch} {X : zX} (hl : l.stackTraces = false) {h : zH} {v1 : Int32} {v2 : Int32} {v3 : Int32} {v4 : Int32} {v5 : Int32} {x : Int32 × zH} (hx : f_Main_feed h v1 v2 v3 v4 v5 = some x) : zCt l (true, 2) 2 m_Main_feed X 0 0 [zr (some (0, 0)), zi v1, zi v2, zi v3, zi v4, zi v5] h ((fun a => (.inl (some (zi a.1)), a.2) : Int32 × zH → zF) x) :=
  zG_ct (R := fun a => (.inl (some (zi a.1)), a.2)) (x := x) ok_Main_feed hl (Nat.le_of_ble_eq_true rfl) hx (k_Main_feed hl)
def m_Net_clear : zM := (({ cls := "ScanPacker$Net", name := "clear", desc := "()V" } : Jvm.MethodName), prog_4_method_2_code, 1, (Option.none : Option Jvm.ClassFile.FieldType), [], 1)
theorem ok_Net_clear : zMok m_Net_clear := ⟨by decide +kernel, zW_of 951 (by decide +kernel) (by decide +kernel), zW_of 125 (by decide +kernel) (by decide +kernel), by decide, by decide +kernel, by decide +kernel⟩
set_option maxRecDepth 20000 in
theorem k_Net_clear {l : Launch} {X : zX} (hl : l.stackTraces = false) {o : Nat} {h : zH} : zGl l m_Net_clear X 0 0 (f_Net_clear o h) (0, [some (zr (some (3, o)))], [], h) (fun x => .inr ((fun a => (.inl none, a) : zH → zF) x)) := by
  unfold f_Net_clear
  refine zG_bind (fun y => (5, [some (zr (some (3, o)))], [], y)) (zG_run t_Net [(.aload_n 0, 0, 0), (.iconst 0, 0, 0), (.putfield 41, 3, 0)] (5, [some (zr (some (3, o)))], [], zsI h o 0 0) (by decide +kernel) rfl (zG_end (L' := [some (zr (some (3, o)))]) rfl (And.intro rfl trivial))) fun h1 => ?_
  refine zG_bind (fun y => (10, [some (zr (some (3, o)))], [], y)) (zG_run t_Net [(.aload_n 0, 0, 0), (.iconst 0, 0, 0), (.putfield 45, 3, 1)] (10, [some (zr (some (3, o)))], [], zsI h1 o 1 0) (by decide +kernel) rfl (zG_end (L' := [some (zr (some (3, o)))]) rfl (And.intro rfl trivial))) fun h2 => ?_
  refine zG_bind (fun y => (15, [some (zr (some (3, o)))], [], y)) (zG_run t_Net [(.aload_n 0, 0, 0), (.iconst 0, 0, 0), (.putfield 48, 3, 2)] (15, [some (zr (some (3, o)))], [], zsI h2 o 2 0) (by decide +kernel) rfl (zG_end (L' := [some (zr (some (3, o)))]) rfl (And.intro rfl trivial))) fun h3 => ?_
  refine zG_bind (fun y => (20, [some (zr (some (3, o)))], [], y)) (zG_run t_Net [(.aload_n 0, 0, 0), (.iconst 0, 0, 0), (.putfield 51, 3, 3)] (20, [some (zr (some (3, o)))], [], zsI h3 o 3 0) (by decide +kernel) rfl (zG_end (L' := [some (zr (some (3, o)))]) rfl (And.intro rfl trivial))) fun h4 => ?_
  refine zG_bind (fun y => (25, [some (zr (some (3, o)))], [], y)) (zG_run t_Net [(.aload_n 0, 0, 0), (.iconst 0, 0, 0), (.putfield 54, 3, 4)] (25, [some (zr (some (3, o)))], [], zsI h4 o 4 0) (by decide +kernel) rfl (zG_end (L' := [some (zr (some (3, o)))]) rfl (And.intro rfl trivial))) fun h5 => ?_
  refine zG_bind (fun y => (30, [some (zr (some (3, o)))], [], y)) (zG_run t_Net [(.aload_n 0, 0, 0), (.iconst 0, 0, 0), (.putfield 58, 3, 5)] (30, [some (zr (some (3, o)))], [], zsI h5 o 5 0) (by decide +kernel) rfl (zG_end (L' := [some (zr (some (3, o)))]) rfl (And.intro rfl trivial))) fun h6 => ?_
  refine zG_bind (fun y => (35, [some (zr (some (3, o)))], [], y)) (zG_run t_Net [(.aload_n 0, 0, 0), (.iconst 0, 0, 0), (.putfield 61, 3, 6)] (35, [some (zr (some (3, o)))], [], zsI h6 o 6 0) (by decide +kernel) rfl (zG_end (L' := [some (zr (some (3, o)))]) rfl (And.intro rfl trivial))) fun h7 => ?_
  exact zG_ret (r := none) rfl (zrd_v rfl (by decide +kernel))
theorem c_Net_clear {l : Launch} {X : zX} (hl : l.stackTraces = false) {o : Nat} {h : zH} {x : zH} (hx : f_Net_clear o h = some x) : zCt l (true, 2) 2 m_Net_clear X 0 0 [zr (some (3, o))] h ((fun a => (.inl none, a) : zH → zF) x) :=
  zG_ct (R := fun a => (.inl none, a)) (x := x) ok_Net_clear hl (Nat.le_of_ble_eq_true rfl) hx (k_Net_clear hl)
def m_Math_min : zM := (({ cls := "java/lang/Math", name := "min", desc := "(II)I" } : Jvm.MethodName), prog_21_method_69_code, 2, (Option.some Jvm.ClassFile.FieldType.int), [], 1)
theorem ok_Math_min : zMok m_Math_min := ⟨by decide +kernel, zW_of 958 (by decide +kernel) (by decide +kernel), zW_of 139 (by decide +kernel) (by decide +kernel), by decide, by decide +kernel, by decide +kernel⟩
set_option maxRecDepth 20000 in
theorem k_Math_min {l : Launch} {X : zX} (hl : l.stackTraces = false) {h : zH} {v0 : Int32} {v1 : Int32} : zGl l m_Math_min X 0 0 (f_Math_min v0 v1) (0, [some (zi v0), some (zi v1)], [], h) (fun x => .inr ((fun a => (.inl (some (zi a)), h) : Int32 → zF) x)) := by
  unfold f_Math_min
  refine zG_run t_Math [(.iload_n 0, 0, 0), (.iload_n 1, 0, 0)] (2, [some (zi v0), some (zi v1)], [zi v1, zi v0], h) (by decide +kernel) rfl ?_
  refine zG_icmp (op := .gt) (off := 7) (tgt := 9) (by decide +kernel) rfl Iff.rfl (fun c1 => ?_) (fun c1 => ?_)
  · refine zG_run t_Math [(.iload_n 1, 0, 0)] (10, [some (zi v0), some (zi v1)], [zi v1], h) (by decide +kernel) rfl ?_
    exact zG_ret (r := some (zi v1)) rfl (zrd_i rfl (by decide +kernel))
  · refine zG_run t_Math [(.iload_n 0, 0, 0), (.goto 4, 0, 0)] (10, [some (zi v0), some (zi v1)], [zi v0], h) (by decide +kernel) rfl ?_
    exact zG_ret (r := some (zi v0)) rfl (zrd_i rfl (by decide +kernel))
theorem c_Math_min {l : Launch} {X : zX} (hl : l.stackTraces = false) {h : zH} {v0 : Int32} {v1 : Int32} {x : Int32} (hx : f_Math_min v0 v1 = some x) : zCt l (true, 2) 2 m_Math_min X 0 0 [zi v0, zi v1] h ((fun a => (.inl (some (zi a)), h) : Int32 → zF) x) :=
  zG_ct (R := fun a => (.inl (some (zi a)), h)) (x := x) ok_Math_min hl (Nat.le_of_ble_eq_true rfl) hx (k_Math_min hl)
def m_Tape_beginText : zM := (({ cls := "ScanPacker$Tape", name := "beginText", desc := "(I)V" } : Jvm.MethodName), prog_10_method_3_code, 2, (Option.none : Option Jvm.ClassFile.FieldType), [], 2)
theorem ok_Tape_beginText : zMok m_Tape_beginText := ⟨by decide +kernel, zW_of 955 (by decide +kernel) (by decide +kernel), zW_of 124 (by decide +kernel) (by decide +kernel), by decide, by decide +kernel, by decide +kernel⟩
set_option maxRecDepth 20000 in
theorem k_Tape_beginText {l : Launch} {X : zX} (hl : l.stackTraces = false) {h : zH} {v1 : Int32} : zGl l m_Tape_beginText X 0 0 (f_Tape_beginText h v1) (0, [some (zr (some (9, 2))), some (zi v1)], [], h) (fun x => .inr ((fun a => (.inl none, a) : zH → zF) x)) := by
  unfold f_Tape_beginText
  refine zG_run t_Tape [(.aload_n 0, 0, 0), (.iload_n 1, 0, 0), (.aload_n 0, 0, 0), (.getfield 15, 9, 1)] (6, [some (zr (some (9, 2))), some (zi v1)], [zi (h.1 2 1), zi v1, zr (some (9, 2))], h) (by decide +kernel) rfl ?_
  refine zG_callS (idx := 19) (R := (fun a => (some (zi a), h))) (as := [zi v1, zi (h.1 2 1)]) (rest := [zr (some (9, 2))]) (n := 2) (fun a ha => c_Math_min hl ha) (by decide +kernel) ⟨ok_Math_min, by decide, by decide +kernel⟩ rfl w_8 w_9 rfl rfl (Nat.le_of_ble_eq_true rfl) fun x1 => ?_
  refine zG_bind (fun y => (12, [some (zr (some (9, 2))), some (zi v1)], [], y)) (zG_run t_Tape [(.putfield 25, 9, 2)] (12, [some (zr (some (9, 2))), some (zi v1)], [], zsI h 2 2 x1) (by decide +kernel) rfl (zG_end (L' := [some (zr (some (9, 2))), some (zi v1)]) rfl (And.intro rfl (And.intro rfl trivial)))) fun h2 => ?_
  refine zG_bind (fun y => (17, [some (zr (some (9, 2))), some (zi v1)], [], y)) (zG_run t_Tape [(.aload_n 0, 0, 0), (.iconst 0, 0, 0), (.putfield 28, 9, 3)] (17, [some (zr (some (9, 2))), some (zi v1)], [], zsI h2 2 3 0) (by decide +kernel) rfl (zG_end (L' := [some (zr (some (9, 2))), some (zi v1)]) rfl (And.intro rfl (And.intro rfl trivial)))) fun h3 => ?_
  exact zG_ret (r := none) rfl (zrd_v rfl (by decide +kernel))
theorem c_Tape_beginText {l : Launch} {X : zX} (hl : l.stackTraces = false) {h : zH} {v1 : Int32} {x : zH} (hx : f_Tape_beginText h v1 = some x) : zCt l (true, 2) 2 m_Tape_beginText X 0 0 [zr (some (9, 2)), zi v1] h ((fun a => (.inl none, a) : zH → zF) x) :=
  zG_ct (R := fun a => (.inl none, a)) (x := x) ok_Tape_beginText hl (Nat.le_of_ble_eq_true rfl) hx (k_Tape_beginText hl)
def m_Tape_isLetter : zM := (({ cls := "ScanPacker$Tape", name := "isLetter", desc := "(I)Z" } : Jvm.MethodName), prog_10_method_9_code, 1, (Option.some Jvm.ClassFile.FieldType.boolean), [], 1)
theorem ok_Tape_isLetter : zMok m_Tape_isLetter := ⟨by decide +kernel, zW_of 965 (by decide +kernel) (by decide +kernel), zW_of 124 (by decide +kernel) (by decide +kernel), by decide, by decide +kernel, by decide +kernel⟩
set_option maxRecDepth 20000 in
theorem k_Tape_isLetter {l : Launch} {X : zX} (hl : l.stackTraces = false) {h : zH} {v0 : Int32} : zGl l m_Tape_isLetter X 0 0 (f_Tape_isLetter v0) (0, [some (zi v0)], [], h) (fun x => .inr ((fun a => (.inl (some (zi a)), h) : Int32 → zF) x)) := by
  unfold f_Tape_isLetter
  refine zG_run t_Tape [(.iload_n 0, 0, 0), (.bipush 97, 0, 0)] (3, [some (zi v0)], [zi 97, zi v0], h) (by decide +kernel) rfl ?_
  refine zG_icmp (op := .lt) (off := 13) (tgt := 16) (by decide +kernel) rfl Iff.rfl (fun c2 => ?_) (fun c2 => ?_)
  · refine zG_run t_Tape [(.iconst 0, 0, 0)] (17, [some (zi v0)], [zi 0], h) (by decide +kernel) rfl ?_
    exact zG_ret (r := some (zi 0)) rfl (zrd_z rfl (by decide +kernel) rfl)
  · refine zG_run t_Tape [(.iload_n 0, 0, 0), (.bipush 122, 0, 0)] (9, [some (zi v0)], [zi 122, zi v0], h) (by decide +kernel) rfl ?_
    refine zG_icmp (op := .gt) (off := 7) (tgt := 16) (by decide +kernel) rfl Iff.rfl (fun c1 => ?_) (fun c1 => ?_)
    · refine zG_run t_Tape [(.iconst 0, 0, 0)] (17, [some (zi v0)], [zi 0], h) (by decide +kernel) rfl ?_
      exact zG_ret (r := some (zi 0)) rfl (zrd_z rfl (by decide +kernel) rfl)
    · refine zG_run t_Tape [(.iconst 1, 0, 0), (.goto 4, 0, 0)] (17, [some (zi v0)], [zi 1], h) (by decide +kernel) rfl ?_
      exact zG_ret (r := some (zi 1)) rfl (zrd_z rfl (by decide +kernel) rfl)
theorem c_Tape_isLetter {l : Launch} {X : zX} (hl : l.stackTraces = false) {h : zH} {v0 : Int32} {x : Int32} (hx : f_Tape_isLetter v0 = some x) : zCt l (true, 2) 2 m_Tape_isLetter X 0 0 [zi v0] h ((fun a => (.inl (some (zi a)), h) : Int32 → zF) x) :=
  zG_ct (R := fun a => (.inl (some (zi a)), h)) (x := x) ok_Tape_isLetter hl (Nat.le_of_ble_eq_true rfl) hx (k_Tape_isLetter hl)
def m_Tape_isDigit : zM := (({ cls := "ScanPacker$Tape", name := "isDigit", desc := "(I)Z" } : Jvm.MethodName), prog_10_method_10_code, 1, (Option.some Jvm.ClassFile.FieldType.boolean), [], 1)
theorem ok_Tape_isDigit : zMok m_Tape_isDigit := ⟨by decide +kernel, zW_of 975 (by decide +kernel) (by decide +kernel), zW_of 124 (by decide +kernel) (by decide +kernel), by decide, by decide +kernel, by decide +kernel⟩
set_option maxRecDepth 20000 in
theorem k_Tape_isDigit {l : Launch} {X : zX} (hl : l.stackTraces = false) {h : zH} {v0 : Int32} : zGl l m_Tape_isDigit X 0 0 (f_Tape_isDigit v0) (0, [some (zi v0)], [], h) (fun x => .inr ((fun a => (.inl (some (zi a)), h) : Int32 → zF) x)) := by
  unfold f_Tape_isDigit
  refine zG_run t_Tape [(.iload_n 0, 0, 0), (.bipush 48, 0, 0)] (3, [some (zi v0)], [zi 48, zi v0], h) (by decide +kernel) rfl ?_
  refine zG_icmp (op := .lt) (off := 13) (tgt := 16) (by decide +kernel) rfl Iff.rfl (fun c2 => ?_) (fun c2 => ?_)
  · refine zG_run t_Tape [(.iconst 0, 0, 0)] (17, [some (zi v0)], [zi 0], h) (by decide +kernel) rfl ?_
    exact zG_ret (r := some (zi 0)) rfl (zrd_z rfl (by decide +kernel) rfl)
  · refine zG_run t_Tape [(.iload_n 0, 0, 0), (.bipush 57, 0, 0)] (9, [some (zi v0)], [zi 57, zi v0], h) (by decide +kernel) rfl ?_
    refine zG_icmp (op := .gt) (off := 7) (tgt := 16) (by decide +kernel) rfl Iff.rfl (fun c1 => ?_) (fun c1 => ?_)
    · refine zG_run t_Tape [(.iconst 0, 0, 0)] (17, [some (zi v0)], [zi 0], h) (by decide +kernel) rfl ?_
      exact zG_ret (r := some (zi 0)) rfl (zrd_z rfl (by decide +kernel) rfl)
    · refine zG_run t_Tape [(.iconst 1, 0, 0), (.goto 4, 0, 0)] (17, [some (zi v0)], [zi 1], h) (by decide +kernel) rfl ?_
      exact zG_ret (r := some (zi 1)) rfl (zrd_z rfl (by decide +kernel) rfl)
theorem c_Tape_isDigit {l : Launch} {X : zX} (hl : l.stackTraces = false) {h : zH} {v0 : Int32} {x : Int32} (hx : f_Tape_isDigit v0 = some x) : zCt l (true, 2) 2 m_Tape_isDigit X 0 0 [zi v0] h ((fun a => (.inl (some (zi a)), h) : Int32 → zF) x) :=
  zG_ct (R := fun a => (.inl (some (zi a)), h)) (x := x) ok_Tape_isDigit hl (Nat.le_of_ble_eq_true rfl) hx (k_Tape_isDigit hl)
def m_Tape_readSign : zM := (({ cls := "ScanPacker$Tape", name := "readSign", desc := "()V" } : Jvm.MethodName), prog_10_method_8_code, 2, (Option.none : Option Jvm.ClassFile.FieldType), [], 1)
theorem ok_Tape_readSign : zMok m_Tape_readSign := ⟨by decide +kernel, zW_of 983 (by decide +kernel) (by decide +kernel), zW_of 124 (by decide +kernel) (by decide +kernel), by decide, by decide +kernel, by decide +kernel⟩
set_option maxRecDepth 20000 in
theorem k_Tape_readSign_j47 {l : Launch} {X : zX} (hl : l.stackTraces = false) {h : zH} {t0 : Int32} : zGl l m_Tape_readSign X 0 0 (f_Tape_readSign_j47 h t0) (47, [none, none], [zi t0, zr (some (9, 2))], h) (fun x => .inr ((fun a => (.inl none, a) : zH → zF) x)) := by
  unfold f_Tape_readSign_j47
  refine zG_bind (fun y => (50, [none, none], [], y)) (zG_run t_Tape [(.putfield 40, 9, 4)] (50, [none, none], [], zsI h 2 4 t0) (by decide +kernel) rfl (zG_end (L' := [none, none]) rfl (trivial))) fun h4 => ?_
  exact zG_ret (r := none) rfl (zrd_v rfl (by decide +kernel))
set_option maxRecDepth 20000 in
theorem k_Tape_readSign {l : Launch} {X : zX} (hl : l.stackTraces = false) {h : zH} : zGl l m_Tape_readSign X 0 0 (f_Tape_readSign h) (0, [some (zr (some (9, 2))), none], [], h) (fun x => .inr ((fun a => (.inl none, a) : zH → zF) x)) := by
  unfold f_Tape_readSign
  refine zG_run t_Tape [(.aload_n 0, 0, 0), (.getfield 9, 9, 0), (.aload_n 0, 0, 0), (.getfield 28, 9, 3)] (8, [some (zr (some (9, 2))), none], [zi (h.1 2 3), zr (some (20, 3))], h) (by decide +kernel) rfl ?_
  refine zG_ald (v := zi (h.1 3 (h.1 2 3).toNatClampNeg)) (n := 900) rfl (by decide +kernel) rfl rfl fun hb1 => ?_
  refine zG_bind (fun y => (20, [some (zr (some (9, 2))), some (zi (h.1 3 (h.1 2 3).toNatClampNeg))], [], y)) (zG_run t_Tape [(.istore_n 1, 0, 0), (.aload_n 0, 0, 0), (.dup, 0, 0), (.getfield 28, 9, 3), (.iconst 1, 0, 0), (.iadd, 0, 0), (.putfield 28, 9, 3)] (20, [some (zr (some (9, 2))), some (zi (h.1 3 (h.1 2 3).toNatClampNeg))], [], zsI h 2 3 ((h.1 2 3) + 1)) (by decide +kernel) rfl (zG_end (L' := [some (zr (some (9, 2))), some (zi (h.1 3 (h.1 2 3).toNatClampNeg))]) rfl (And.intro rfl (And.intro rfl trivial)))) fun h2 => ?_
  refine zG_bind (fun y => (25, [some (zr (some (9, 2))), some (zi (h.1 3 (h.1 2 3).toNatClampNeg))], [], y)) (zG_run t_Tape [(.aload_n 0, 0, 0), (.iconst 1, 0, 0), (.putfield 34, 9, 6)] (25, [some (zr (some (9, 2))), some (zi (h.1 3 (h.1 2 3).toNatClampNeg))], [], zsI h2 2 6 1) (by decide +kernel) rfl (zG_end (L' := [some (zr (some (9, 2))), some (zi (h.1 3 (h.1 2 3).toNatClampNeg))]) rfl (And.intro rfl (And.intro rfl trivial)))) fun h3 => ?_
  refine zG_run t_Tape [(.aload_n 0, 0, 0), (.iload_n 1, 0, 0), (.bipush 59, 0, 0)] (29, [some (zr (some (9, 2))), some (zi (h.1 3 (h.1 2 3).toNatClampNeg))], [zi 59, zi (h.1 3 (h.1 2 3).toNatClampNeg), zr (some (9, 2))], h3) (by decide +kernel) rfl ?_
  refine zG_icmp (op := .ne) (off := 7) (tgt := 36) (by decide +kernel) rfl Iff.rfl (fun c6 => ?_) (fun c6 => ?_)
  · refine zG_run t_Tape [(.iload_n 1, 0, 0), (.bipush 61, 0, 0)] (39, [some (zr (some (9, 2))), some (zi (h.1 3 (h.1 2 3).toNatClampNeg))], [zi 61, zi (h.1 3 (h.1 2 3).toNatClampNeg), zr (some (9, 2))], h3) (by decide +kernel) rfl ?_
    refine zG_icmp (op := .ne) (off := 7) (tgt := 46) (by decide +kernel) rfl Iff.rfl (fun c5 => ?_) (fun c5 => ?_)
    · refine zG_run t_Tape [(.iconst 1, 0, 0)] (47, [some (zr (some (9, 2))), some (zi (h.1 3 (h.1 2 3).toNatClampNeg))], [zi 1, zr (some (9, 2))], h3) (by decide +kernel) rfl ?_
      exact zG_forget (L' := [none, none]) (trivial) (k_Tape_readSign_j47 hl)
    · refine zG_run t_Tape [(.iconst 4, 0, 0), (.goto 4, 0, 0)] (47, [some (zr (some (9, 2))), some (zi (h.1 3 (h.1 2 3).toNatClampNeg))], [zi 4, zr (some (9, 2))], h3) (by decide +kernel) rfl ?_
      exact zG_forget (L' := [none, none]) (trivial) (k_Tape_readSign_j47 hl)
  · refine zG_run t_Tape [(.iconst 3, 0, 0), (.goto 14, 0, 0)] (47, [some (zr (some (9, 2))), some (zi (h.1 3 (h.1 2 3).toNatClampNeg))], [zi 3, zr (some (9, 2))], h3) (by decide +kernel) rfl ?_
    exact zG_forget (L' := [none, none]) (trivial) (k_Tape_readSign_j47 hl)
theorem c_Tape_readSign {l : Launch} {X : zX} (hl : l.stackTraces = false) {h : zH} {x : zH} (hx : f_Tape_readSign h = some x) : zCt l (true, 2) 2 m_Tape_readSign X 0 0 [zr (some (9, 2))] h ((fun a => (.inl none, a) : zH → zF) x) :=
  zG_ct (R := fun a => (.inl none, a)) (x := x) ok_Tape_readSign hl (Nat.le_of_ble_eq_true rfl) hx (k_Tape_readSign hl)
def m_Tape_readNumber : zM := (({ cls := "ScanPacker$Tape", name := "readNumber", desc := "()V" } : Jvm.MethodName), prog_10_method_7_code, 1, (Option.none : Option Jvm.ClassFile.FieldType), [], 2)
theorem ok_Tape_readNumber : zMok m_Tape_readNumber := ⟨by decide +kernel, zW_of 979 (by decide +kernel) (by decide +kernel), zW_of 124 (by decide +kernel) (by decide +kernel), by decide, by decide +kernel, by decide +kernel⟩
set_option maxRecDepth 20000 in
theorem k_Tape_readNumber_b0 {l : Launch} {X : zX} (hl : l.stackTraces = false) {h : zH} : zGl l m_Tape_readNumber X 0 0 (f_Tape_readNumber_b0 h) (0, [some (zr (some (9, 2)))], [], h) (Sum.elim (fun s : zH => .inl (0, [some (zr (some (9, 2)))], [], s)) (fun y : zH => .inl (55, [some (zr (some (9, 2)))], [], y))) := by
  unfold f_Tape_readNumber_b0
  refine zG_run t_Tape [(.aload_n 0, 0, 0), (.getfield 28, 9, 3), (.aload_n 0, 0, 0), (.getfield 25, 9, 2)] (8, [some (zr (some (9, 2)))], [zi (h.1 2 2), zi (h.1 2 3)], h) (by decide +kernel) rfl ?_
  refine zG_icmp (op := .ge) (off := 47) (tgt := 55) (by decide +kernel) rfl Iff.rfl (fun c7 => ?_) (fun c7 => ?_)
  · exact zG_end (L' := [some (zr (some (9, 2)))]) rfl (And.intro rfl trivial)
  · refine zG_run t_Tape [(.aload_n 0, 0, 0), (.getfield 9, 9, 0), (.aload_n 0, 0, 0), (.getfield 28, 9, 3)] (19, [some (zr (some (9, 2)))], [zi (h.1 2 3), zr (some (20, 3))], h) (by decide +kernel) rfl ?_
    refine zG_ald (v := zi (h.1 3 (h.1 2 3).toNatClampNeg)) (n := 900) rfl (by decide +kernel) rfl rfl fun hb1 => ?_
    refine zG_callS (idx := 54) (R := (fun a => (some (zi a), h))) (as := [zi (h.1 3 (h.1 2 3).toNatClampNeg)]) (rest := []) (n := 1) (fun a ha => c_Tape_isDigit hl ha) (by decide +kernel) ⟨ok_Tape_isDigit, by decide, by decide +kernel⟩ rfl w_15 w_16 rfl rfl (Nat.le_of_ble_eq_true rfl) fun x2 => ?_
    refine zG_if (op := .eq) (off := 32) (tgt := 55) (by decide +kernel) rfl Iff.rfl (fun c6 => ?_) (fun c6 => ?_)
    · exact zG_end (L' := [some (zr (some (9, 2)))]) rfl (And.intro rfl trivial)
    · refine zG_run t_Tape [(.aload_n 0, 0, 0), (.aload_n 0, 0, 0), (.getfield 9, 9, 0), (.aload_n 0, 0, 0), (.getfield 28, 9, 3)] (35, [some (zr (some (9, 2)))], [zi (h.1 2 3), zr (some (20, 3)), zr (some (9, 2))], h) (by decide +kernel) rfl ?_
      refine zG_ald (v := zi (h.1 3 (h.1 2 3).toNatClampNeg)) (n := 900) rfl (by decide +kernel) rfl rfl fun hb3 => ?_
      refine zG_bind (fun y => (42, [some (zr (some (9, 2)))], [], y)) (zG_run t_Tape [(.bipush 48, 0, 0), (.isub, 0, 0), (.putfield 37, 9, 7)] (42, [some (zr (some (9, 2)))], [], zsI h 2 7 ((h.1 3 (h.1 2 3).toNatClampNeg) - 48)) (by decide +kernel) rfl (zG_end (L' := [some (zr (some (9, 2)))]) rfl (And.intro rfl trivial))) fun h4 => ?_
      refine zG_bind (fun y => (52, [some (zr (some (9, 2)))], [], y)) (zG_run t_Tape [(.aload_n 0, 0, 0), (.dup, 0, 0), (.getfield 28, 9, 3), (.iconst 1, 0, 0), (.iadd, 0, 0), (.putfield 28, 9, 3)] (52, [some (zr (some (9, 2)))], [], zsI h4 2 3 ((h4.1 2 3) + 1)) (by decide +kernel) rfl (zG_end (L' := [some (zr (some (9, 2)))]) rfl (And.intro rfl trivial))) fun h5 => ?_
      refine zG_run t_Tape [(.goto (-52), 0, 0)] (0, [some (zr (some (9, 2)))], [], h5) (by decide +kernel) rfl ?_
      exact zG_end (L' := [some (zr (some (9, 2)))]) rfl (And.intro rfl trivial)
set_option maxRecDepth 20000 in
theorem k_Tape_readNumber {l : Launch} {X : zX} (hl : l.stackTraces = false) {h : zH} : zGl l m_Tape_readNumber X 0 0 (f_Tape_readNumber h) (0, [some (zr (some (9, 2)))], [], h) (fun x => .inr ((fun a => (.inl none, a) : zH → zF) x)) := by
  unfold f_Tape_readNumber
  refine zG_forget (L' := [some (zr (some (9, 2)))]) (And.intro rfl trivial) ?_
  refine zG_bind (fun y : zH => (55, [some (zr (some (9, 2)))], [], y)) (zG_iter (fun s : zH => (0, [some (zr (some (9, 2)))], [], s)) fun s => k_Tape_readNumber_b0 hl) (fun y9 => ?_)
  refine zG_bind (fun y => (68, [some (zr (some (9, 2)))], [], y)) (zG_run t_Tape [(.aload_n 0, 0, 0), (.aload_n 0, 0, 0), (.getfield 28, 9, 3), (.aload_n 0, 0, 0), (.getfield 31, 9, 5), (.isub, 0, 0), (.putfield 34, 9, 6)] (68, [some (zr (some (9, 2)))], [], zsI y9 2 6 ((y9.1 2 3) - (y9.1 2 5))) (by decide +kernel) rfl (zG_end (L' := [some (zr (some (9, 2)))]) rfl (And.intro rfl trivial))) fun h10 => ?_
  refine zG_bind (fun y => (73, [some (zr (some (9, 2)))], [], y)) (zG_run t_Tape [(.aload_n 0, 0, 0), (.iconst 2, 0, 0), (.putfield 40, 9, 4)] (73, [some (zr (some (9, 2)))], [], zsI h10 2 4 2) (by decide +kernel) rfl (zG_end (L' := [some (zr (some (9, 2)))]) rfl (And.intro rfl trivial))) fun h11 => ?_
  exact zG_ret (r := none) rfl (zrd_v rfl (by decide +kernel))
theorem c_Tape_readNumber {l : Launch} {X : zX} (hl : l.stackTraces = false) {h : zH} {x : zH} (hx : f_Tape_readNumber h = some x) : zCt l (true, 2) 2 m_Tape_readNumber X 0 0 [zr (some (9, 2))] h ((fun a => (.inl none, a) : zH → zF) x) :=
  zG_ct (R := fun a => (.inl none, a)) (x := x) ok_Tape_readNumber hl (Nat.le_of_ble_eq_true rfl) hx (k_Tape_readNumber hl)
def m_Tape_readWord : zM := (({ cls := "ScanPacker$Tape", name := "readWord", desc := "()V" } : Jvm.MethodName), prog_10_method_6_code, 1, (Option.none : Option Jvm.ClassFile.FieldType), [], 2)
theorem ok_Tape_readWord : zMok m_Tape_readWord := ⟨by decide +kernel, zW_of 969 (by decide +kernel) (by decide +kernel), zW_of 124 (by decide +kernel) (by decide +kernel), by decide, by decide +kernel, by decide +kernel⟩
set_option maxRecDepth 20000 in
theorem k_Tape_readWord_b0 {l : Launch} {X : zX} (hl : l.stackTraces = false) {h : zH} : zGl l m_Tape_readWord X 0 0 (f_Tape_readWord_b0 h) (0, [some (zr (some (9, 2)))], [], h) (Sum.elim (fun s : zH => .inl (0, [some (zr (some (9, 2)))], [], s)) (fun y : zH => .inl (62, [some (zr (some (9, 2)))], [], y))) := by
  unfold f_Tape_readWord_b0
  refine zG_run t_Tape [(.aload_n 0, 0, 0), (.getfield 28, 9, 3), (.aload_n 0, 0, 0), (.getfield 25, 9, 2)] (8, [some (zr (some (9, 2)))], [zi (h.1 2 2), zi (h.1 2 3)], h) (by decide +kernel) rfl ?_
  refine zG_icmp (op := .ge) (off := 54) (tgt := 62) (by decide +kernel) rfl Iff.rfl (fun c7 => ?_) (fun c7 => ?_)
  · exact zG_end (L' := [some (zr (some (9, 2)))]) rfl (And.intro rfl trivial)
  · refine zG_run t_Tape [(.aload_n 0, 0, 0), (.getfield 9, 9, 0), (.aload_n 0, 0, 0), (.getfield 28, 9, 3)] (19, [some (zr (some (9, 2)))], [zi (h.1 2 3), zr (some (20, 3))], h) (by decide +kernel) rfl ?_
    refine zG_ald (v := zi (h.1 3 (h.1 2 3).toNatClampNeg)) (n := 900) rfl (by decide +kernel) rfl rfl fun hb1 => ?_
    refine zG_callS (idx := 43) (R := (fun a => (some (zi a), h))) (as := [zi (h.1 3 (h.1 2 3).toNatClampNeg)]) (rest := []) (n := 1) (fun a ha => c_Tape_isLetter hl ha) (by decide +kernel) ⟨ok_Tape_isLetter, by decide, by decide +kernel⟩ rfl w_13 w_14 rfl rfl (Nat.le_of_ble_eq_true rfl) fun x2 => ?_
    refine zG_if (op := .eq) (off := 39) (tgt := 62) (by decide +kernel) rfl Iff.rfl (fun c6 => ?_) (fun c6 => ?_)
    · exact zG_end (L' := [some (zr (some (9, 2)))]) rfl (And.intro rfl trivial)
    · refine zG_run t_Tape [(.aload_n 0, 0, 0), (.aload_n 0, 0, 0), (.getfield 37, 9, 7), (.iconst 5, 0, 0), (.ishl, 0, 0), (.aload_n 0, 0, 0), (.getfield 9, 9, 0), (.aload_n 0, 0, 0), (.getfield 28, 9, 3)] (41, [some (zr (some (9, 2)))], [zi (h.1 2 3), zr (some (20, 3)), zi (zshl (h.1 2 7) 5), zr (some (9, 2))], h) (by decide +kernel) rfl ?_
      refine zG_ald (v := zi (h.1 3 (h.1 2 3).toNatClampNeg)) (n := 900) rfl (by decide +kernel) rfl rfl fun hb3 => ?_
      refine zG_run t_Tape [(.bipush 32, 0, 0)] (44, [some (zr (some (9, 2)))], [zi 32, zi (h.1 3 (h.1 2 3).toNatClampNeg), zi (zshl (h.1 2 7) 5), zr (some (9, 2))], h) (by decide +kernel) rfl ?_
      refine zG_iremc (by decide +kernel) (by decide) ?_
      refine zG_bind (fun y => (49, [some (zr (some (9, 2)))], [], y)) (zG_run t_Tape [(.ior, 0, 0), (.putfield 37, 9, 7)] (49, [some (zr (some (9, 2)))], [], zsI h 2 7 ((zshl (h.1 2 7) 5) ||| (zrem (h.1 3 (h.1 2 3).toNatClampNeg) 32))) (by decide +kernel) rfl (zG_end (L' := [some (zr (some (9, 2)))]) rfl (And.intro rfl trivial))) fun h4 => ?_
      refine zG_bind (fun y => (59, [some (zr (some (9, 2)))], [], y)) (zG_run t_Tape [(.aload_n 0, 0, 0), (.dup, 0, 0), (.getfield 28, 9, 3), (.iconst 1, 0, 0), (.iadd, 0, 0), (.putfield 28, 9, 3)] (59, [some (zr (some (9, 2)))], [], zsI h4 2 3 ((h4.1 2 3) + 1)) (by decide +kernel) rfl (zG_end (L' := [some (zr (some (9, 2)))]) rfl (And.intro rfl trivial))) fun h5 => ?_
      refine zG_run t_Tape [(.goto (-59), 0, 0)] (0, [some (zr (some (9, 2)))], [], h5) (by decide +kernel) rfl ?_
      exact zG_end (L' := [some (zr (some (9, 2)))]) rfl (And.intro rfl trivial)
set_option maxRecDepth 20000 in
theorem k_Tape_readWord {l : Launch} {X : zX} (hl : l.stackTraces = false) {h : zH} : zGl l m_Tape_readWord X 0 0 (f_Tape_readWord h) (0, [some (zr (some (9, 2)))], [], h) (fun x => .inr ((fun a => (.inl none, a) : zH → zF) x)) := by
  unfold f_Tape_readWord
  refine zG_forget (L' := [some (zr (some (9, 2)))]) (And.intro rfl trivial) ?_
  refine zG_bind (fun y : zH => (62, [some (zr (some (9, 2)))], [], y)) (zG_iter (fun s : zH => (0, [some (zr (some (9, 2)))], [], s)) fun s => k_Tape_readWord_b0 hl) (fun y9 => ?_)
  refine zG_bind (fun y => (75, [some (zr (some (9, 2)))], [], y)) (zG_run t_Tape [(.aload_n 0, 0, 0), (.aload_n 0, 0, 0), (.getfield 28, 9, 3), (.aload_n 0, 0, 0), (.getfield 31, 9, 5), (.isub, 0, 0), (.putfield 34, 9, 6)] (75, [some (zr (some (9, 2)))], [], zsI y9 2 6 ((y9.1 2 3) - (y9.1 2 5))) (by decide +kernel) rfl (zG_end (L' := [some (zr (some (9, 2)))]) rfl (And.intro rfl trivial))) fun h10 => ?_
  exact zG_ret (r := none) rfl (zrd_v rfl (by decide +kernel))
theorem c_Tape_readWord {l : Launch} {X : zX} (hl : l.stackTraces = false) {h : zH} {x : zH} (hx : f_Tape_readWord h = some x) : zCt l (true, 2) 2 m_Tape_readWord X 0 0 [zr (some (9, 2))] h ((fun a => (.inl none, a) : zH → zF) x) :=
  zG_ct (R := fun a => (.inl none, a)) (x := x) ok_Tape_readWord hl (Nat.le_of_ble_eq_true rfl) hx (k_Tape_readWord hl)
def m_Tape_tokenOfWord : zM := (({ cls := "ScanPacker$Tape", name := "tokenOfWord", desc := "(I)I" } : Jvm.MethodName), prog_10_method_11_code, 1, (Option.some Jvm.ClassFile.FieldType.int), [], 1)
theorem ok_Tape_tokenOfWord : zMok m_Tape_tokenOfWord := ⟨by decide +kernel, zW_of 972 (by decide +kernel) (by decide +kernel), zW_of 124 (by decide +kernel) (by decide +kernel), by decide, by decide +kernel, by decide +kernel⟩
set_option maxRecDepth 20000 in
theorem k_Tape_tokenOfWord {l : Launch} {X : zX} (hl : l.stackTraces = false) {h : zH} {v0 : Int32} : zGl l m_Tape_tokenOfWord X 0 0 (f_Tape_tokenOfWord v0) (0, [some (zi v0)], [], h) (fun x => .inr ((fun a => (.inl (some (zi a)), h) : Int32 → zF) x)) := by
  unfold f_Tape_tokenOfWord
  refine zG_run t_Tape [(.iload_n 0, 0, 0)] (1, [some (zi v0)], [zi v0], h) (by decide +kernel) rfl ?_
  refine zG_case (fun c1 => ?_) (fun c1 => ?_)
  · refine zG_lsw (off := 99) (tgt := 100) (dflt := 132) (ps := #[(302, 99), (498, 120), (1476, 117), (14834, 129), (14836, 114), (19621, 102), (25074, 123), (206220, 111), (460228, 126), (656741, 108), (3409198, 105)]) (len := 99) (by decide +kernel) (by decide +kernel) (by rw [c1]; decide +kernel) rfl ?_
    refine zG_run t_Tape [(.bipush 6, 0, 0)] (102, [some (zi v0)], [zi 6], h) (by decide +kernel) rfl ?_
    exact zG_ret (r := some (zi 6)) rfl (zrd_i rfl (by decide +kernel))
  · refine zG_case (fun c2 => ?_) (fun c2 => ?_)
    · refine zG_lsw (off := 120) (tgt := 121) (dflt := 132) (ps := #[(302, 99), (498, 120), (1476, 117), (14834, 129), (14836, 114), (19621, 102), (25074, 123), (206220, 111), (460228, 126), (656741, 108), (3409198, 105)]) (len := 99) (by decide +kernel) (by decide +kernel) (by rw [c2]; decide +kernel) rfl ?_
      refine zG_run t_Tape [(.bipush 13, 0, 0)] (123, [some (zi v0)], [zi 13], h) (by decide +kernel) rfl ?_
      exact zG_ret (r := some (zi 13)) rfl (zrd_i rfl (by decide +kernel))
    · refine zG_case (fun c3 => ?_) (fun c3 => ?_)
      · refine zG_lsw (off := 117) (tgt := 118) (dflt := 132) (ps := #[(302, 99), (498, 120), (1476, 117), (14834, 129), (14836, 114), (19621, 102), (25074, 123), (206220, 111), (460228, 126), (656741, 108), (3409198, 105)]) (len := 99) (by decide +kernel) (by decide +kernel) (by rw [c3]; decide +kernel) rfl ?_
        refine zG_run t_Tape [(.bipush 12, 0, 0)] (120, [some (zi v0)], [zi 12], h) (by decide +kernel) rfl ?_
        exact zG_ret (r := some (zi 12)) rfl (zrd_i rfl (by decide +kernel))
      · refine zG_case (fun c4 => ?_) (fun c4 => ?_)
        · refine zG_lsw (off := 129) (tgt := 130) (dflt := 132) (ps := #[(302, 99), (498, 120), (1476, 117), (14834, 129), (14836, 114), (19621, 102), (25074, 123), (206220, 111), (460228, 126), (656741, 108), (3409198, 105)]) (len := 99) (by decide +kernel) (by decide +kernel) (by rw [c4]; decide +kernel) rfl ?_
          refine zG_run t_Tape [(.bipush 16, 0, 0)] (132, [some (zi v0)], [zi 16], h) (by decide +kernel) rfl ?_
          exact zG_ret (r := some (zi 16)) rfl (zrd_i rfl (by decide +kernel))
        · refine zG_case (fun c5 => ?_) (fun c5 => ?_)
          · refine zG_lsw (off := 114) (tgt := 115) (dflt := 132) (ps := #[(302, 99), (498, 120), (1476, 117), (14834, 129), (14836, 114), (19621, 102), (25074, 123), (206220, 111), (460228, 126), (656741, 108), (3409198, 105)]) (len := 99) (by decide +kernel) (by decide +kernel) (by rw [c5]; decide +kernel) rfl ?_
            refine zG_run t_Tape [(.bipush 11, 0, 0)] (117, [some (zi v0)], [zi 11], h) (by decide +kernel) rfl ?_
            exact zG_ret (r := some (zi 11)) rfl (zrd_i rfl (by decide +kernel))
          · refine zG_case (fun c6 => ?_) (fun c6 => ?_)
            · refine zG_lsw (off := 102) (tgt := 103) (dflt := 132) (ps := #[(302, 99), (498, 120), (1476, 117), (14834, 129), (14836, 114), (19621, 102), (25074, 123), (206220, 111), (460228, 126), (656741, 108), (3409198, 105)]) (len := 99) (by decide +kernel) (by decide +kernel) (by rw [c6]; decide +kernel) rfl ?_
              refine zG_run t_Tape [(.bipush 7, 0, 0)] (105, [some (zi v0)], [zi 7], h) (by decide +kernel) rfl ?_
              exact zG_ret (r := some (zi 7)) rfl (zrd_i rfl (by decide +kernel))
            · refine zG_case (fun c7 => ?_) (fun c7 => ?_)
              · refine zG_lsw (off := 123) (tgt := 124) (dflt := 132) (ps := #[(302, 99), (498, 120), (1476, 117), (14834, 129), (14836, 114), (19621, 102), (25074, 123), (206220, 111), (460228, 126), (656741, 108), (3409198, 105)]) (len := 99) (by decide +kernel) (by decide +kernel) (by rw [c7]; decide +kernel) rfl ?_
                refine zG_run t_Tape [(.bipush 14, 0, 0)] (126, [some (zi v0)], [zi 14], h) (by decide +kernel) rfl ?_
                exact zG_ret (r := some (zi 14)) rfl (zrd_i rfl (by decide +kernel))
              · refine zG_case (fun c8 => ?_) (fun c8 => ?_)
                · refine zG_lsw (off := 111) (tgt := 112) (dflt := 132) (ps := #[(302, 99), (498, 120), (1476, 117), (14834, 129), (14836, 114), (19621, 102), (25074, 123), (206220, 111), (460228, 126), (656741, 108), (3409198, 105)]) (len := 99) (by decide +kernel) (by decide +kernel) (by rw [c8]; decide +kernel) rfl ?_
                  refine zG_run t_Tape [(.bipush 10, 0, 0)] (114, [some (zi v0)], [zi 10], h) (by decide +kernel) rfl ?_
                  exact zG_ret (r := some (zi 10)) rfl (zrd_i rfl (by decide +kernel))
                · refine zG_case (fun c9 => ?_) (fun c9 => ?_)
                  · refine zG_lsw (off := 126) (tgt := 127) (dflt := 132) (ps := #[(302, 99), (498, 120), (1476, 117), (14834, 129), (14836, 114), (19621, 102), (25074, 123), (206220, 111), (460228, 126), (656741, 108), (3409198, 105)]) (len := 99) (by decide +kernel) (by decide +kernel) (by rw [c9]; decide +kernel) rfl ?_
                    refine zG_run t_Tape [(.bipush 15, 0, 0)] (129, [some (zi v0)], [zi 15], h) (by decide +kernel) rfl ?_
                    exact zG_ret (r := some (zi 15)) rfl (zrd_i rfl (by decide +kernel))
                  · refine zG_case (fun c10 => ?_) (fun c10 => ?_)
                    · refine zG_lsw (off := 108) (tgt := 109) (dflt := 132) (ps := #[(302, 99), (498, 120), (1476, 117), (14834, 129), (14836, 114), (19621, 102), (25074, 123), (206220, 111), (460228, 126), (656741, 108), (3409198, 105)]) (len := 99) (by decide +kernel) (by decide +kernel) (by rw [c10]; decide +kernel) rfl ?_
                      refine zG_run t_Tape [(.bipush 9, 0, 0)] (111, [some (zi v0)], [zi 9], h) (by decide +kernel) rfl ?_
                      exact zG_ret (r := some (zi 9)) rfl (zrd_i rfl (by decide +kernel))
                    · refine zG_case (fun c11 => ?_) (fun c11 => ?_)
                      · refine zG_lsw (off := 105) (tgt := 106) (dflt := 132) (ps := #[(302, 99), (498, 120), (1476, 117), (14834, 129), (14836, 114), (19621, 102), (25074, 123), (206220, 111), (460228, 126), (656741, 108), (3409198, 105)]) (len := 99) (by decide +kernel) (by decide +kernel) (by rw [c11]; decide +kernel) rfl ?_
                        refine zG_run t_Tape [(.bipush 8, 0, 0)] (108, [some (zi v0)], [zi 8], h) (by decide +kernel) rfl ?_
                        exact zG_ret (r := some (zi 8)) rfl (zrd_i rfl (by decide +kernel))
                      · have e0 : Int32.toInt v0 ≠ 302 := zne (k := 302) c1
                        have e1 : Int32.toInt v0 ≠ 498 := zne (k := 498) c2
                        have e2 : Int32.toInt v0 ≠ 1476 := zne (k := 1476) c3
                        have e3 : Int32.toInt v0 ≠ 14834 := zne (k := 14834) c4
                        have e4 : Int32.toInt v0 ≠ 14836 := zne (k := 14836) c5
                        have e5 : Int32.toInt v0 ≠ 19621 := zne (k := 19621) c6
                        have e6 : Int32.toInt v0 ≠ 25074 := zne (k := 25074) c7
                        have e7 : Int32.toInt v0 ≠ 206220 := zne (k := 206220) c8
                        have e8 : Int32.toInt v0 ≠ 460228 := zne (k := 460228) c9
                        have e9 : Int32.toInt v0 ≠ 656741 := zne (k := 656741) c10
                        have e10 : Int32.toInt v0 ≠ 3409198 := zne (k := 3409198) c11
                        refine zG_lsw (off := 132) (tgt := 133) (dflt := 132) (ps := #[(302, 99), (498, 120), (1476, 117), (14834, 129), (14836, 114), (19621, 102), (25074, 123), (206220, 111), (460228, 126), (656741, 108), (3409198, 105)]) (len := 99) (by decide +kernel) (by decide +kernel) (by simp [Op.lookupswitch.offset, Ne.symm e0, Ne.symm e1, Ne.symm e2, Ne.symm e3, Ne.symm e4, Ne.symm e5, Ne.symm e6, Ne.symm e7, Ne.symm e8, Ne.symm e9, Ne.symm e10, e0, e1, e2, e3, e4, e5, e6, e7, e8, e9, e10] <;> rfl) rfl ?_
                        refine zG_run t_Tape [(.iconst 5, 0, 0)] (134, [some (zi v0)], [zi 5], h) (by decide +kernel) rfl ?_
                        exact zG_ret (r := some (zi 5)) rfl (zrd_i rfl (by decide +kernel))
theorem c_Tape_tokenOfWord {l : Launch} {X : zX} (hl : l.stackTraces = false) {h : zH} {v0 : Int32} {x : Int32} (hx : f_Tape_tokenOfWord v0 = some x) : zCt l (true, 2) 2 m_Tape_tokenOfWord X 0 0 [zi v0] h ((fun a => (.inl (some (zi a)), h) : Int32 → zF) x) :=
  zG_ct (R := fun a => (.inl (some (zi a)), h)) (x := x) ok_Tape_tokenOfWord hl (Nat.le_of_ble_eq_true rfl) hx (k_Tape_tokenOfWord hl)
def m_Tape_advance : zM := (({ cls := "ScanPacker$Tape", name := "advance", desc := "()V" } : Jvm.MethodName), prog_10_method_5_code, 1, (Option.none : Option Jvm.ClassFile.FieldType), [], 3)
theorem ok_Tape_advance : zMok m_Tape_advance := ⟨by decide +kernel, zW_of 962 (by decide +kernel) (by decide +kernel), zW_of 124 (by decide +kernel) (by decide +kernel), by decide, by decide +kernel, by decide +kernel⟩
set_option maxRecDepth 20000 in
theorem k_Tape_advance_j39 {l : Launch} {X : zX} (hl : l.stackTraces = false) {h : zH} : zGl l m_Tape_advance X 0 0 (f_Tape_advance_j39 h) (39, [some (zr (some (9, 2)))], [], h) (Sum.elim (fun s : zH => .inl (0, [some (zr (some (9, 2)))], [], s)) (fun y : zH => .inl (52, [some (zr (some (9, 2)))], [], y))) := by
  unfold f_Tape_advance_j39
  refine zG_bind (fun y => (49, [some (zr (some (9, 2)))], [], y)) (zG_run t_Tape [(.aload_n 0, 0, 0), (.dup, 0, 0), (.getfield 28, 9, 3), (.iconst 1, 0, 0), (.iadd, 0, 0), (.putfield 28, 9, 3)] (49, [some (zr (some (9, 2)))], [], zsI h 2 3 ((h.1 2 3) + 1)) (by decide +kernel) rfl (zG_end (L' := [some (zr (some (9, 2)))]) rfl (And.intro rfl trivial))) fun h2 => ?_
  refine zG_run t_Tape [(.goto (-49), 0, 0)] (0, [some (zr (some (9, 2)))], [], h2) (by decide +kernel) rfl ?_
  exact zG_end (L' := [some (zr (some (9, 2)))]) rfl (And.intro rfl trivial)
set_option maxRecDepth 20000 in
theorem k_Tape_advance_b0 {l : Launch} {X : zX} (hl : l.stackTraces = false) {h : zH} : zGl l m_Tape_advance X 0 0 (f_Tape_advance_b0 h) (0, [some (zr (some (9, 2)))], [], h) (Sum.elim (fun s : zH => .inl (0, [some (zr (some (9, 2)))], [], s)) (fun y : zH => .inl (52, [some (zr (some (9, 2)))], [], y))) := by
  unfold f_Tape_advance_b0
  refine zG_run t_Tape [(.aload_n 0, 0, 0), (.getfield 28, 9, 3), (.aload_n 0, 0, 0), (.getfield 25, 9, 2)] (8, [some (zr (some (9, 2)))], [zi (h.1 2 2), zi (h.1 2 3)], h) (by decide +kernel) rfl ?_
  refine zG_icmp (op := .ge) (off := 44) (tgt := 52) (by decide +kernel) rfl Iff.rfl (fun c6 => ?_) (fun c6 => ?_)
  · exact zG_end (L' := [some (zr (some (9, 2)))]) rfl (And.intro rfl trivial)
  · refine zG_run t_Tape [(.aload_n 0, 0, 0), (.getfield 9, 9, 0), (.aload_n 0, 0, 0), (.getfield 28, 9, 3)] (19, [some (zr (some (9, 2)))], [zi (h.1 2 3), zr (some (20, 3))], h) (by decide +kernel) rfl ?_
    refine zG_ald (v := zi (h.1 3 (h.1 2 3).toNatClampNeg)) (n := 900) rfl (by decide +kernel) rfl rfl fun hb1 => ?_
    refine zG_run t_Tape [(.bipush 32, 0, 0)] (22, [some (zr (some (9, 2)))], [zi 32, zi (h.1 3 (h.1 2 3).toNatClampNeg)], h) (by decide +kernel) rfl ?_
    refine zG_icmp (op := .eq) (off := 17) (tgt := 39) (by decide +kernel) rfl Iff.rfl (fun c5 => ?_) (fun c5 => ?_)
    · exact zG_forget (L' := [some (zr (some (9, 2)))]) (And.intro rfl trivial) (k_Tape_advance_j39 hl)
    · refine zG_run t_Tape [(.aload_n 0, 0, 0), (.getfield 9, 9, 0), (.aload_n 0, 0, 0), (.getfield 28, 9, 3)] (33, [some (zr (some (9, 2)))], [zi (h.1 2 3), zr (some (20, 3))], h) (by decide +kernel) rfl ?_
      refine zG_ald (v := zi (h.1 3 (h.1 2 3).toNatClampNeg)) (n := 900) rfl (by decide +kernel) rfl rfl fun hb3 => ?_
      refine zG_run t_Tape [(.bipush 10, 0, 0)] (36, [some (zr (some (9, 2)))], [zi 10, zi (h.1 3 (h.1 2 3).toNatClampNeg)], h) (by decide +kernel) rfl ?_
      refine zG_icmp (op := .ne) (off := 16) (tgt := 52) (by decide +kernel) rfl Iff.rfl (fun c4 => ?_) (fun c4 => ?_)
      · exact zG_end (L' := [some (zr (some (9, 2)))]) rfl (And.intro rfl trivial)
      · exact zG_forget (L' := [some (zr (some (9, 2)))]) (And.intro rfl trivial) (k_Tape_advance_j39 hl)
set_option maxRecDepth 20000 in
theorem k_Tape_advance_j129 {l : Launch} {X : zX} (hl : l.stackTraces = false) {h : zH} {t0 : Int32} : zGl l m_Tape_advance X 0 0 (f_Tape_advance_j129 h t0) (129, [none], [zi t0, zr (some (9, 2))], h) (fun x => .inr ((fun a => (.inl none, a) : zH → zF) x)) := by
  unfold f_Tape_advance_j129
  refine zG_bind (fun y => (132, [none], [], y)) (zG_run t_Tape [(.putfield 40, 9, 4)] (132, [none], [], zsI h 2 4 t0) (by decide +kernel) rfl (zG_end (L' := [none]) rfl (trivial))) fun h21 => ?_
  refine zG_run t_Tape [(.goto 29, 0, 0)] (161, [none], [], h21) (by decide +kernel) rfl ?_
  exact zG_ret (r := none) rfl (zrd_v rfl (by decide +kernel))
set_option maxRecDepth 20000 in
theorem k_Tape_advance {l : Launch} {X : zX} (hl : l.stackTraces = false) {h : zH} : zGl l m_Tape_advance X 0 0 (f_Tape_advance h) (0, [some (zr (some (9, 2)))], [], h) (fun x => .inr ((fun a => (.inl none, a) : zH → zF) x)) := by
  unfold f_Tape_advance
  refine zG_forget (L' := [some (zr (some (9, 2)))]) (And.intro rfl trivial) ?_
  refine zG_bind (fun y : zH => (52, [some (zr (some (9, 2)))], [], y)) (zG_iter (fun s : zH => (0, [some (zr (some (9, 2)))], [], s)) fun s => k_Tape_advance_b0 hl) (fun y8 => ?_)
  refine zG_bind (fun y => (60, [some (zr (some (9, 2)))], [], y)) (zG_run t_Tape [(.aload_n 0, 0, 0), (.aload_n 0, 0, 0), (.getfield 28, 9, 3), (.putfield 31, 9, 5)] (60, [some (zr (some (9, 2)))], [], zsI y8 2 5 (y8.1 2 3)) (by decide +kernel) rfl (zG_end (L' := [some (zr (some (9, 2)))]) rfl (And.intro rfl trivial))) fun h9 => ?_
  refine zG_bind (fun y => (65, [some (zr (some (9, 2)))], [], y)) (zG_run t_Tape [(.aload_n 0, 0, 0), (.iconst 0, 0, 0), (.putfield 34, 9, 6)] (65, [some (zr (some (9, 2)))], [], zsI h9 2 6 0) (by decide +kernel) rfl (zG_end (L' := [some (zr (some (9, 2)))]) rfl (And.intro rfl trivial))) fun h10 => ?_
  refine zG_bind (fun y => (70, [some (zr (some (9, 2)))], [], y)) (zG_run t_Tape [(.aload_n 0, 0, 0), (.iconst 0, 0, 0), (.putfield 37, 9, 7)] (70, [some (zr (some (9, 2)))], [], zsI h10 2 7 0) (by decide +kernel) rfl (zG_end (L' := [some (zr (some (9, 2)))]) rfl (And.intro rfl trivial))) fun h11 => ?_
  refine zG_run t_Tape [(.aload_n 0, 0, 0), (.getfield 28, 9, 3), (.aload_n 0, 0, 0), (.getfield 25, 9, 2)] (78, [some (zr (some (9, 2)))], [zi (h11.1 2 2), zi (h11.1 2 3)], h11) (by decide +kernel) rfl ?_
  refine zG_icmp (op := .lt) (off := 11) (tgt := 89) (by decide +kernel) rfl Iff.rfl (fun c25 => ?_) (fun c25 => ?_)
  · refine zG_run t_Tape [(.aload_n 0, 0, 0), (.getfield 9, 9, 0), (.aload_n 0, 0, 0), (.getfield 28, 9, 3)] (97, [some (zr (some (9, 2)))], [zi (h11.1 2 3), zr (some (20, 3))], h11) (by decide +kernel) rfl ?_
    refine zG_ald (v := zi (h11.1 3 (h11.1 2 3).toNatClampNeg)) (n := 900) rfl (by decide +kernel) rfl rfl fun hb12 => ?_
    refine zG_callS (idx := 43) (R := (fun a => (some (zi a), h11))) (as := [zi (h11.1 3 (h11.1 2 3).toNatClampNeg)]) (rest := []) (n := 1) (fun a ha => c_Tape_isLetter hl ha) (by decide +kernel) ⟨ok_Tape_isLetter, by decide, by decide +kernel⟩ rfl w_13 w_14 rfl rfl (Nat.le_of_ble_eq_true rfl) fun x13 => ?_
    refine zG_if (op := .eq) (off := 34) (tgt := 135) (by decide +kernel) rfl Iff.rfl (fun c23 => ?_) (fun c23 => ?_)
    · refine zG_run t_Tape [(.aload_n 0, 0, 0), (.getfield 9, 9, 0), (.aload_n 0, 0, 0), (.getfield 28, 9, 3)] (143, [some (zr (some (9, 2)))], [zi (h11.1 2 3), zr (some (20, 3))], h11) (by decide +kernel) rfl ?_
      refine zG_ald (v := zi (h11.1 3 (h11.1 2 3).toNatClampNeg)) (n := 900) rfl (by decide +kernel) rfl rfl fun hb14 => ?_
      refine zG_callS (idx := 54) (R := (fun a => (some (zi a), h11))) (as := [zi (h11.1 3 (h11.1 2 3).toNatClampNeg)]) (rest := []) (n := 1) (fun a ha => c_Tape_isDigit hl ha) (by decide +kernel) ⟨ok_Tape_isDigit, by decide, by decide +kernel⟩ rfl w_15 w_16 rfl rfl (Nat.le_of_ble_eq_true rfl) fun x15 => ?_
      refine zG_if (op := .eq) (off := 10) (tgt := 157) (by decide +kernel) rfl Iff.rfl (fun c18 => ?_) (fun c18 => ?_)
      · refine zG_run t_Tape [(.aload_n 0, 0, 0)] (158, [some (zr (some (9, 2)))], [zr (some (9, 2))], h11) (by decide +kernel) rfl ?_
        refine zG_callV (idx := 60) (R := (fun a => (none, a))) (as := []) (rest := []) (n := 0) (fun a ha => c_Tape_readSign hl ha) (by decide +kernel) ⟨ok_Tape_readSign, by decide, by decide +kernel⟩ rfl w_17 w_18 w_19 (by decide) rfl rfl rfl (Nat.le_of_ble_eq_true rfl) fun x16 => ?_
        exact zG_ret (r := none) rfl (zrd_v rfl (by decide +kernel))
      · refine zG_run t_Tape [(.aload_n 0, 0, 0)] (151, [some (zr (some (9, 2)))], [zr (some (9, 2))], h11) (by decide +kernel) rfl ?_
        refine zG_callV (idx := 57) (R := (fun a => (none, a))) (as := []) (rest := []) (n := 0) (fun a ha => c_Tape_readNumber hl ha) (by decide +kernel) ⟨ok_Tape_readNumber, by decide, by decide +kernel⟩ rfl w_20 w_21 w_22 (by decide) rfl rfl rfl (Nat.le_of_ble_eq_true rfl) fun x17 => ?_
        refine zG_run t_Tape [(.goto 7, 0, 0)] (161, [some (zr (some (9, 2)))], [], x17) (by decide +kernel) rfl ?_
        exact zG_ret (r := none) rfl (zrd_v rfl (by decide +kernel))
    · refine zG_run t_Tape [(.aload_n 0, 0, 0)] (105, [some (zr (some (9, 2)))], [zr (some (9, 2))], h11) (by decide +kernel) rfl ?_
      refine zG_callV (idx := 47) (R := (fun a => (none, a))) (as := []) (rest := []) (n := 0) (fun a ha => c_Tape_readWord hl ha) (by decide +kernel) ⟨ok_Tape_readWord, by decide, by decide +kernel⟩ rfl w_23 w_24 w_25 (by decide) rfl rfl rfl (Nat.le_of_ble_eq_true rfl) fun x19 => ?_
      refine zG_run t_Tape [(.aload_n 0, 0, 0), (.aload_n 0, 0, 0), (.getfield 34, 9, 6), (.bipush 6, 0, 0)] (115, [some (zr (some (9, 2)))], [zi 6, zi (x19.1 2 6), zr (some (9, 2))], x19) (by decide +kernel) rfl ?_
      refine zG_icmp (op := .le) (off := 7) (tgt := 122) (by decide +kernel) rfl Iff.rfl (fun c22 => ?_) (fun c22 => ?_)
      · refine zG_run t_Tape [(.aload_n 0, 0, 0), (.getfield 37, 9, 7)] (126, [some (zr (some (9, 2)))], [zi (x19.1 2 7), zr (some (9, 2))], x19) (by decide +kernel) rfl ?_
        refine zG_callS (idx := 50) (R := (fun a => (some (zi a), x19))) (as := [zi (x19.1 2 7)]) (rest := [zr (some (9, 2))]) (n := 1) (fun a ha => c_Tape_tokenOfWord hl ha) (by decide +kernel) ⟨ok_Tape_tokenOfWord, by decide, by decide +kernel⟩ rfl w_26 w_27 rfl rfl (Nat.le_of_ble_eq_true rfl) fun x20 => ?_
        exact zG_forget (L' := [none]) (trivial) (k_Tape_advance_j129 hl)
      · refine zG_run t_Tape [(.iconst 5, 0, 0), (.goto 10, 0, 0)] (129, [some (zr (some (9, 2)))], [zi 5, zr (some (9, 2))], x19) (by decide +kernel) rfl ?_
        exact zG_forget (L' := [none]) (trivial) (k_Tape_advance_j129 hl)
  · refine zG_bind (fun y => (86, [some (zr (some (9, 2)))], [], y)) (zG_run t_Tape [(.aload_n 0, 0, 0), (.iconst 0, 0, 0), (.putfield 40, 9, 4)] (86, [some (zr (some (9, 2)))], [], zsI h11 2 4 0) (by decide +kernel) rfl (zG_end (L' := [some (zr (some (9, 2)))]) rfl (And.intro rfl trivial))) fun h24 => ?_
    refine zG_run t_Tape [(.goto 75, 0, 0)] (161, [some (zr (some (9, 2)))], [], h24) (by decide +kernel) rfl ?_
    exact zG_ret (r := none) rfl (zrd_v rfl (by decide +kernel))
theorem c_Tape_advance {l : Launch} {X : zX} (hl : l.stackTraces = false) {h : zH} {x : zH} (hx : f_Tape_advance h = some x) : zCt l (true, 2) 2 m_Tape_advance X 0 0 [zr (some (9, 2))] h ((fun a => (.inl none, a) : zH → zF) x) :=
  zG_ct (R := fun a => (.inl none, a)) (x := x) ok_Tape_advance hl (Nat.le_of_ble_eq_true rfl) hx (k_Tape_advance hl)
def m_Parser_faultOfWord : zM := (({ cls := "ScanPacker$Parser", name := "faultOfWord", desc := "()I" } : Jvm.MethodName), prog_6_method_14_code, 1, (Option.some Jvm.ClassFile.FieldType.int), [], 1)
theorem ok_Parser_faultOfWord : zMok m_Parser_faultOfWord := ⟨by decide +kernel, zW_of 1003 (by decide +kernel) (by decide +kernel), zW_of 123 (by decide +kernel) (by decide +kernel), by decide, by decide +kernel, by decide +kernel⟩
set_option maxRecDepth 20000 in
theorem k_Parser_faultOfWord {l : Launch} {X : zX} (hl : l.stackTraces = false) {h : zH} : zGl l m_Parser_faultOfWord X 0 0 (f_Parser_faultOfWord h) (0, [some (zr (some (5, 1)))], [], h) (fun x => .inr ((fun a => (.inl (some (zi a)), h) : Int32 → zF) x)) := by
  unfold f_Parser_faultOfWord
  refine zG_run t_Parser [(.aload_n 0, 0, 0), (.getfield 12, 5, 0), (.getfield 42, 9, 4), (.iconst 5, 0, 0)] (8, [some (zr (some (5, 1)))], [zi 5, zi (h.1 2 4)], h) (by decide +kernel) rfl ?_
  refine zG_icmp (op := .eq) (off := 5) (tgt := 13) (by decide +kernel) rfl Iff.rfl (fun c2 => ?_) (fun c2 => ?_)
  · refine zG_run t_Parser [(.aload_n 0, 0, 0), (.getfield 12, 5, 0), (.getfield 88, 9, 6), (.bipush 6, 0, 0)] (22, [some (zr (some (5, 1)))], [zi 6, zi (h.1 2 6)], h) (by decide +kernel) rfl ?_
    refine zG_icmp (op := .le) (off := 7) (tgt := 29) (by decide +kernel) rfl Iff.rfl (fun c1 => ?_) (fun c1 => ?_)
    · refine zG_run t_Parser [(.iconst 0, 0, 0)] (30, [some (zr (some (5, 1)))], [zi 0], h) (by decide +kernel) rfl ?_
      exact zG_ret (r := some (zi 0)) rfl (zrd_i rfl (by decide +kernel))
    · refine zG_run t_Parser [(.iconst 2, 0, 0), (.goto 4, 0, 0)] (30, [some (zr (some (5, 1)))], [zi 2], h) (by decide +kernel) rfl ?_
      exact zG_ret (r := some (zi 2)) rfl (zrd_i rfl (by decide +kernel))
  · refine zG_run t_Parser [(.iconst 1, 0, 0)] (12, [some (zr (some (5, 1)))], [zi 1], h) (by decide +kernel) rfl ?_
    exact zG_ret (r := some (zi 1)) rfl (zrd_i rfl (by decide +kernel))
theorem c_Parser_faultOfWord {l : Launch} {X : zX} (hl : l.stackTraces = false) {h : zH} {x : Int32} (hx : f_Parser_faultOfWord h = some x) : zCt l (true, 2) 2 m_Parser_faultOfWord X 0 0 [zr (some (5, 1))] h ((fun a => (.inl (some (zi a)), h) : Int32 → zF) x) :=
  zG_ct (R := fun a => (.inl (some (zi a)), h)) (x := x) ok_Parser_faultOfWord hl (Nat.le_of_ble_eq_true rfl) hx (k_Parser_faultOfWord hl)
def m_Net_lines : zM := (({ cls := "ScanPacker$Net", name := "lines", desc := "()I" } : Jvm.MethodName), prog_4_method_3_code, 1, (Option.some Jvm.ClassFile.FieldType.int), [], 1)
theorem ok_Net_lines : zMok m_Net_lines := ⟨by decide +kernel, zW_of 579 (by decide +kernel) (by decide +kernel), zW_of 125 (by decide +kernel) (by decide +kernel), by decide, by decide +kernel, by decide +kernel⟩
set_option maxRecDepth 20000 in
theorem k_Net_lines {l : Launch} {X : zX} (hl : l.stackTraces = false) {o : Nat} {h : zH} : zGl l m_Net_lines X 0 0 (f_Net_lines o h) (0, [some (zr (some (3, o)))], [], h) (fun x => .inr ((fun a => (.inl (some (zi a)), h) : Int32 → zF) x)) := by
  unfold f_Net_lines
  refine zG_run t_Net [(.aload_n 0, 0, 0), (.getfield 41, 3, 0), (.aload_n 0, 0, 0), (.getfield 45, 3, 1), (.iadd, 0, 0)] (9, [some (zr (some (3, o)))], [zi ((h.1 o 0) + (h.1 o 1))], h) (by decide +kernel) rfl ?_
  exact zG_ret (r := some (zi ((h.1 o 0) + (h.1 o 1)))) rfl (zrd_i rfl (by decide +kernel))
theorem c_Net_lines {l : Launch} {X : zX} (hl : l.stackTraces = false) {o : Nat} {h : zH} {x : Int32} (hx : f_Net_lines o h = some x) : zCt l (true, 2) 2 m_Net_lines X 0 0 [zr (some (3, o))] h ((fun a => (.inl (some (zi a)), h) : Int32 → zF) x) :=
  zG_ct (R := fun a => (.inl (some (zi a)), h)) (x := x) ok_Net_lines hl (Nat.le_of_ble_eq_true rfl) hx (k_Net_lines hl)
def m_Net_find : zM := (({ cls := "ScanPacker$Net", name := "find", desc := "(I)I" } : Jvm.MethodName), prog_4_method_7_code, 3, (Option.some Jvm.ClassFile.FieldType.int), [], 2)
theorem ok_Net_find : zMok m_Net_find := ⟨by decide +kernel, zW_of 1007 (by decide +kernel) (by decide +kernel), zW_of 125 (by decide +kernel) (by decide +kernel), by decide, by decide +kernel, by decide +kernel⟩
set_option maxRecDepth 20000 in
theorem k_Net_find_b2 {l : Launch} {X : zX} (hl : l.stackTraces = false) {o : Nat} {h : zH} {v1 : Int32} {v2 : Int32} : zGl l m_Net_find X 0 0 (f_Net_find_b2 o h v1 v2) (2, [some (zr (some (3, o))), some (zi v1), some (zi v2)], [], h) (Sum.elim (fun s : Int32 => .inl (2, [some (zr (some (3, o))), some (zi v1), some (zi s)], [], h)) (Sum.elim (fun y : Int32 => .inl (20, [none, none, some (zi y)], [], h)) (fun y : Unit => .inl (28, [none, none, none], [], h)))) := by
  unfold f_Net_find_b2
  refine zG_run t_Net [(.iload_n 2, 0, 0), (.aload_n 0, 0, 0)] (4, [some (zr (some (3, o))), some (zi v1), some (zi v2)], [zr (some (3, o)), zi v2], h) (by decide +kernel) rfl ?_
  refine zG_callV (idx := 64) (R := (fun a => (some (zi a), h))) (as := []) (rest := [zi v2]) (n := 0) (fun a ha => c_Net_lines hl ha) (by decide +kernel) ⟨ok_Net_lines, by decide, by decide +kernel⟩ rfl w_34 w_35 w_36 (by decide) rfl rfl rfl (Nat.le_of_ble_eq_true rfl) fun x1 => ?_
  refine zG_icmp (op := .ge) (off := 21) (tgt := 28) (by decide +kernel) rfl Iff.rfl (fun c4 => ?_) (fun c4 => ?_)
  · exact zG_end (L' := [none, none, none]) rfl (trivial)
  · refine zG_run t_Net [(.aload_n 0, 0, 0), (.getfield 9, 3, 7), (.iload_n 2, 0, 0)] (15, [some (zr (some (3, o))), some (zi v1), some (zi v2)], [zi v2, zr (some (21, (o + 1)))], h) (by decide +kernel) rfl ?_
    refine zG_ald (v := zi (h.1 (o + 1) v2.toNatClampNeg)) (n := 22) rfl (by decide +kernel) rfl rfl fun hb2 => ?_
    refine zG_run t_Net [(.iload_n 1, 0, 0)] (17, [some (zr (some (3, o))), some (zi v1), some (zi v2)], [zi v1, zi (h.1 (o + 1) v2.toNatClampNeg)], h) (by decide +kernel) rfl ?_
    refine zG_icmp (op := .ne) (off := 5) (tgt := 22) (by decide +kernel) rfl Iff.rfl (fun c3 => ?_) (fun c3 => ?_)
    · refine zG_run t_Net [(.iinc 2 1, 0, 0), (.goto (-23), 0, 0)] (2, [some (zr (some (3, o))), some (zi v1), some (zi (v2 + 1))], [], h) (by decide +kernel) rfl ?_
      exact zG_end (L' := [some (zr (some (3, o))), some (zi v1), some (zi (v2 + 1))]) rfl (And.intro rfl (And.intro rfl (And.intro rfl trivial)))
    · exact zG_end (L' := [none, none, some (zi v2)]) rfl (And.intro rfl trivial)
set_option maxRecDepth 20000 in
theorem k_Net_find {l : Launch} {X : zX} (hl : l.stackTraces = false) {o : Nat} {h : zH} {v1 : Int32} : zGl l m_Net_find X 0 0 (f_Net_find o h v1) (0, [some (zr (some (3, o))), some (zi v1), none], [], h) (fun x => .inr ((fun a => (.inl (some (zi a)), h) : Int32 → zF) x)) := by
  unfold f_Net_find
  refine zG_run t_Net [(.iconst 0, 0, 0), (.istore_n 2, 0, 0)] (2, [some (zr (some (3, o))), some (zi v1), some (zi 0)], [], h) (by decide +kernel) rfl ?_
  refine zG_forget (L' := [some (zr (some (3, o))), some (zi v1), some (zi 0)]) (And.intro rfl (And.intro rfl (And.intro rfl trivial))) ?_
  refine zG_bind2 (fun y : Int32 => (20, [none, none, some (zi y)], [], h)) (fun y : Unit => (28, [none, none, none], [], h)) (zG_iter (fun s : Int32 => (2, [some (zr (some (3, o))), some (zi v1), some (zi s)], [], h)) fun s => k_Net_find_b2 hl) (fun y6 => ?_) (fun y7 => ?_)
  · refine zG_run t_Net [(.iload_n 2, 0, 0)] (21, [none, none, some (zi y6)], [zi y6], h) (by decide +kernel) rfl ?_
    exact zG_ret (r := some (zi y6)) rfl (zrd_i rfl (by decide +kernel))
  · refine zG_run t_Net [(.iconst (-1), 0, 0)] (29, [none, none, none], [zi (-1)], h) (by decide +kernel) rfl ?_
    exact zG_ret (r := some (zi (-1))) rfl (zrd_i rfl (by decide +kernel))
theorem c_Net_find {l : Launch} {X : zX} (hl : l.stackTraces = false) {o : Nat} {h : zH} {v1 : Int32} {x : Int32} (hx : f_Net_find o h v1 = some x) : zCt l (true, 2) 2 m_Net_find X 0 0 [zr (some (3, o)), zi v1] h ((fun a => (.inl (some (zi a)), h) : Int32 → zF) x) :=
  zG_ct (R := fun a => (.inl (some (zi a)), h)) (x := x) ok_Net_find hl (Nat.le_of_ble_eq_true rfl) hx (k_Net_find hl)
def m_Parser_refuse : zM := (({ cls := "ScanPacker$Parser", name := "refuse", desc := "(I)Z" } : Jvm.MethodName), prog_6_method_4_code, 2, (Option.some Jvm.ClassFile.FieldType.boolean), [], 1)
theorem ok_Parser_refuse : zMok m_Parser_refuse := ⟨by decide +kernel, zW_of 995 (by decide +kernel) (by decide +kernel), zW_of 123 (by decide +kernel) (by decide +kernel), by decide, by decide +kernel, by decide +kernel⟩
set_option maxRecDepth 20000 in
theorem k_Parser_refuse {l : Launch} {X : zX} (hl : l.stackTraces = false) {h : zH} {v1 : Int32} : zGl l m_Parser_refuse X 0 0 (f_Parser_refuse h v1) (0, [some (zr (some (5, 1))), some (zi v1)], [], h) (fun x => .inr ((fun a => (.inl (some (zi a.1)), a.2) : Int32 × zH → zF) x)) := by
  unfold f_Parser_refuse
  refine zG_bind (fun y => (5, [some (zr (some (5, 1))), some (zi v1)], [], y)) (zG_run t_Parser [(.aload_n 0, 0, 0), (.iload_n 1, 0, 0), (.putfield 32, 5, 2)] (5, [some (zr (some (5, 1))), some (zi v1)], [], zsI h 1 2 v1) (by decide +kernel) rfl (zG_end (L' := [some (zr (some (5, 1))), some (zi v1)]) rfl (And.intro rfl (And.intro rfl trivial)))) fun h1 => ?_
  refine zG_bind (fun y => (16, [some (zr (some (5, 1))), some (zi v1)], [], y)) (zG_run t_Parser [(.aload_n 0, 0, 0), (.aload_n 0, 0, 0), (.getfield 12, 5, 0), (.getfield 50, 9, 5), (.putfield 25, 5, 3)] (16, [some (zr (some (5, 1))), some (zi v1)], [], zsI h1 1 3 (h1.1 2 5)) (by decide +kernel) rfl (zG_end (L' := [some (zr (some (5, 1))), some (zi v1)]) rfl (And.intro rfl (And.intro rfl trivial)))) fun h2 => ?_
  refine zG_run t_Parser [(.iconst 0, 0, 0)] (17, [some (zr (some (5, 1))), some (zi v1)], [zi 0], h2) (by decide +kernel) rfl ?_
  exact zG_ret (r := some (zi 0)) rfl (zrd_z rfl (by decide +kernel) rfl)
theorem c_Parser_refuse {l : Launch} {X : zX} (hl : l.stackTraces = false) {h : zH} {v1 : Int32} {x : Int32 × zH} (hx : f_Parser_refuse h v1 = some x) : zCt l (true, 2) 2 m_Parser_refuse X 0 0 [zr (some (5, 1)), zi v1] h ((fun a => (.inl (some (zi a.1)), a.2) : Int32 × zH → zF) x) :=
  zG_ct (R := fun a => (.inl (some (zi a.1)), a.2)) (x := x) ok_Parser_refuse hl (Nat.le_of_ble_eq_true rfl) hx (k_Parser_refuse hl)
def m_Parser_isNewName : zM := (({ cls := "ScanPacker$Parser", name := "isNewName", desc := "(Z)Z" } : Jvm.MethodName), prog_6_method_15_code, 3, (Option.some Jvm.ClassFile.FieldType.boolean), [], 3)
theorem ok_Parser_isNewName : zMok m_Parser_isNewName := ⟨by decide +kernel, zW_of 999 (by decide +kernel) (by decide +kernel), zW_of 123 (by decide +kernel) (by decide +kernel), by decide, by decide +kernel, by decide +kernel⟩
set_option maxRecDepth 20000 in
theorem k_Parser_isNewName {l : Launch} {X : zX} (hl : l.stackTraces = false) {h : zH} {v1 : Int32} : zGl l m_Parser_isNewName X 0 0 (f_Parser_isNewName h v1) (0, [some (zr (some (5, 1))), some (zi v1), none], [], h) (fun x => .inr ((fun a => (.inl (some (zi a.1)), a.2) : Int32 × zH → zF) x)) := by
  unfold f_Parser_isNewName
  refine zG_run t_Parser [(.aload_n 0, 0, 0)] (1, [some (zr (some (5, 1))), some (zi v1), none], [zr (some (5, 1))], h) (by decide +kernel) rfl ?_
  refine zG_callV (idx := 149) (R := (fun a => (some (zi a), h))) (as := []) (rest := []) (n := 0) (fun a ha => c_Parser_faultOfWord hl ha) (by decide +kernel) ⟨ok_Parser_faultOfWord, by decide, by decide +kernel⟩ rfl w_31 w_32 w_33 (by decide) rfl rfl rfl (Nat.le_of_ble_eq_true rfl) fun x1 => ?_
  refine zG_run t_Parser [(.istore_n 2, 0, 0), (.iload_n 2, 0, 0)] (6, [some (zr (some (5, 1))), some (zi v1), some (zi x1)], [zi x1], h) (by decide +kernel) rfl ?_
  refine zG_if (op := .eq) (off := 9) (tgt := 15) (by decide +kernel) rfl Iff.rfl (fun c12 => ?_) (fun c12 => ?_)
  · refine zG_run t_Parser [(.iload_n 1, 0, 0)] (16, [some (zr (some (5, 1))), some (zi v1), some (zi x1)], [zi v1], h) (by decide +kernel) rfl ?_
    refine zG_if (op := .ne) (off := 9) (tgt := 25) (by decide +kernel) rfl Iff.rfl (fun c9 => ?_) (fun c9 => ?_)
    · refine zG_run t_Parser [(.aload_n 0, 0, 0), (.getfield 21, 5, 1)] (29, [some (zr (some (5, 1))), some (zi v1), some (zi x1)], [zr (h.2.2.1 1 1)], h) (by decide +kernel) rfl ?_
      refine zG_dyn fun w2 _ => ?_
      refine zG_run t_Parser [(.aload_n 0, 0, 0), (.getfield 12, 5, 0), (.getfield 85, 9, 7)] (36, [some (zr (some (5, 1))), some (zi v1), some (zi x1)], [zi (h.1 2 7), zr (some (3, w2))], h) (by decide +kernel) rfl ?_
      refine zG_callV (idx := 152) (R := (fun a => (some (zi a), h))) (as := [zi (h.1 2 7)]) (rest := []) (n := 1) (fun a ha => c_Net_find hl ha) (by decide +kernel) ⟨ok_Net_find, by decide, by decide +kernel⟩ rfl w_37 w_38 w_39 (by decide) rfl rfl rfl (Nat.le_of_ble_eq_true rfl) fun x3 => ?_
      refine zG_run t_Parser [(.iconst (-1), 0, 0)] (40, [some (zr (some (5, 1))), some (zi v1), some (zi x1)], [zi (-1), zi x3], h) (by decide +kernel) rfl ?_
      refine zG_icmp (op := .eq) (off := 11) (tgt := 51) (by decide +kernel) rfl Iff.rfl (fun c6 => ?_) (fun c6 => ?_)
      · refine zG_run t_Parser [(.iconst 1, 0, 0), (.goto 4, 0, 0)] (56, [some (zr (some (5, 1))), some (zi v1), some (zi x1)], [zi 1], h) (by decide +kernel) rfl ?_
        exact zG_ret (r := some (zi 1)) rfl (zrd_z rfl (by decide +kernel) rfl)
      · refine zG_run t_Parser [(.aload_n 0, 0, 0), (.iconst 4, 0, 0)] (45, [some (zr (some (5, 1))), some (zi v1), some (zi x1)], [zi 4, zr (some (5, 1))], h) (by decide +kernel) rfl ?_
        refine zG_callV (idx := 71) (R := (fun a => (some (zi a.1), a.2))) (as := [zi 4]) (rest := []) (n := 1) (fun a ha => c_Parser_refuse hl ha) (by decide +kernel) ⟨ok_Parser_refuse, by decide, by decide +kernel⟩ rfl w_40 w_41 w_42 (by decide) rfl rfl rfl (Nat.le_of_ble_eq_true rfl) fun x4 => ?_
        refine zG_if (op := .eq) (off := 7) (tgt := 55) (by decide +kernel) rfl Iff.rfl (fun c5 => ?_) (fun c5 => ?_)
        · refine zG_run t_Parser [(.iconst 0, 0, 0)] (56, [some (zr (some (5, 1))), some (zi v1), some (zi x1)], [zi 0], x4.2) (by decide +kernel) rfl ?_
          exact zG_ret (r := some (zi 0)) rfl (zrd_z rfl (by decide +kernel) rfl)
        · refine zG_run t_Parser [(.iconst 1, 0, 0), (.goto 4, 0, 0)] (56, [some (zr (some (5, 1))), some (zi v1), some (zi x1)], [zi 1], x4.2) (by decide +kernel) rfl ?_
          exact zG_ret (r := some (zi 1)) rfl (zrd_z rfl (by decide +kernel) rfl)
    · refine zG_run t_Parser [(.aload_n 0, 0, 0), (.iconst 2, 0, 0)] (21, [some (zr (some (5, 1))), some (zi v1), some (zi x1)], [zi 2, zr (some (5, 1))], h) (by decide +kernel) rfl ?_
      refine zG_callV (idx := 71) (R := (fun a => (some (zi a.1), a.2))) (as := [zi 2]) (rest := []) (n := 1) (fun a ha => c_Parser_refuse hl ha) (by decide +kernel) ⟨ok_Parser_refuse, by decide, by decide +kernel⟩ rfl w_40 w_41 w_42 (by decide) rfl rfl rfl (Nat.le_of_ble_eq_true rfl) fun x7 => ?_
      refine zG_guard fun hb8 => ?_
      exact zG_ret (r := some (zi x7.1)) rfl (zrd_z rfl (by decide +kernel) hb8)
  · refine zG_run t_Parser [(.aload_n 0, 0, 0), (.iload_n 2, 0, 0)] (11, [some (zr (some (5, 1))), some (zi v1), some (zi x1)], [zi x1, zr (some (5, 1))], h) (by decide +kernel) rfl ?_
    refine zG_callV (idx := 71) (R := (fun a => (some (zi a.1), a.2))) (as := [zi x1]) (rest := []) (n := 1) (fun a ha => c_Parser_refuse hl ha) (by decide +kernel) ⟨ok_Parser_refuse, by decide, by decide +kernel⟩ rfl w_40 w_41 w_42 (by decide) rfl rfl rfl (Nat.le_of_ble_eq_true rfl) fun x10 => ?_
    refine zG_guard fun hb11 => ?_
    exact zG_ret (r := some (zi x10.1)) rfl (zrd_z rfl (by decide +kernel) hb11)
theorem c_Parser_isNewName {l : Launch} {X : zX} (hl : l.stackTraces = false) {h : zH} {v1 : Int32} {x : Int32 × zH} (hx : f_Parser_isNewName h v1 = some x) : zCt l (true, 2) 2 m_Parser_isNewName X 0 0 [zr (some (5, 1)), zi v1] h ((fun a => (.inl (some (zi a.1)), a.2) : Int32 × zH → zF) x) :=
  zG_ct (R := fun a => (.inl (some (zi a.1)), a.2)) (x := x) ok_Parser_isNewName hl (Nat.le_of_ble_eq_true rfl) hx (k_Parser_isNewName hl)
def m_Net_nameNext : zM := (({ cls := "ScanPacker$Net", name := "nameNext", desc := "(III)V" } : Jvm.MethodName), prog_4_method_9_code, 5, (Option.none : Option Jvm.ClassFile.FieldType), [], 2)
theorem ok_Net_nameNext : zMok m_Net_nameNext := ⟨by decide +kernel, zW_of 1015 (by decide +kernel) (by decide +kernel), zW_of 125 (by decide +kernel) (by decide +kernel), by decide, by decide +kernel, by decide +kernel⟩
set_option maxRecDepth 20000 in
theorem k_Net_nameNext {l : Launch} {X : zX} (hl : l.stackTraces = false) {o : Nat} {h : zH} {v1 : Int32} {v2 : Int32} {v3 : Int32} : zGl l m_Net_nameNext X 0 0 (f_Net_nameNext o h v1 v2 v3) (0, [some (zr (some (3, o))), some (zi v1), some (zi v2), some (zi v3), none], [], h) (fun x => .inr ((fun a => (.inl none, a) : zH → zF) x)) := by
  unfold f_Net_nameNext
  refine zG_run t_Net [(.aload_n 0, 0, 0)] (1, [some (zr (some (3, o))), some (zi v1), some (zi v2), some (zi v3), none], [zr (some (3, o))], h) (by decide +kernel) rfl ?_
  refine zG_callV (idx := 64) (R := (fun a => (some (zi a), h))) (as := []) (rest := []) (n := 0) (fun a ha => c_Net_lines hl ha) (by decide +kernel) ⟨ok_Net_lines, by decide, by decide +kernel⟩ rfl w_34 w_35 w_36 (by decide) rfl rfl rfl (Nat.le_of_ble_eq_true rfl) fun x1 => ?_
  refine zG_run t_Net [(.istore 4, 0, 0), (.iload 4, 0, 0), (.bipush 22, 0, 0)] (10, [some (zr (some (3, o))), some (zi v1), some (zi v2), some (zi v3), some (zi x1)], [zi 22, zi x1], h) (by decide +kernel) rfl ?_
  refine zG_icmp (op := .lt) (off := 4) (tgt := 14) (by decide +kernel) rfl Iff.rfl (fun c10 => ?_) (fun c10 => ?_)
  · refine zG_run t_Net [(.aload_n 0, 0, 0), (.getfield 9, 3, 7), (.iload 4, 0, 0), (.iload_n 1, 0, 0)] (21, [some (zr (some (3, o))), some (zi v1), some (zi v2), some (zi v3), some (zi x1)], [zi v1, zi x1, zr (some (21, (o + 1)))], h) (by decide +kernel) rfl ?_
    refine zG_guard fun hb3 => ?_
    refine zG_bind (fun y => (22, [some (zr (some (3, o))), some (zi v1), some (zi v2), some (zi v3), some (zi x1)], [], y)) (zG_astc (h' := zsI h (o + 1) x1.toNatClampNeg v1) rfl (by decide +kernel) hb3 rfl (zG_end (L' := [some (zr (some (3, o))), some (zi v1), some (zi v2), some (zi v3), some (zi x1)]) rfl (And.intro rfl (And.intro rfl (And.intro rfl (And.intro rfl (And.intro rfl trivial))))))) fun h2 => ?_
    refine zG_run t_Net [(.aload_n 0, 0, 0), (.getfield 15, 3, 8), (.iload 4, 0, 0), (.iload_n 2, 0, 0)] (29, [some (zr (some (3, o))), some (zi v1), some (zi v2), some (zi v3), some (zi x1)], [zi v2, zi x1, zr (some (22, (o + 2)))], h2) (by decide +kernel) rfl ?_
    refine zG_guard fun hb5 => ?_
    refine zG_bind (fun y => (30, [some (zr (some (3, o))), some (zi v1), some (zi v2), some (zi v3), some (zi x1)], [], y)) (zG_astc (h' := zsI h2 (o + 2) x1.toNatClampNeg v2) rfl (by decide +kernel) hb5 rfl (zG_end (L' := [some (zr (some (3, o))), some (zi v1), some (zi v2), some (zi v3), some (zi x1)]) rfl (And.intro rfl (And.intro rfl (And.intro rfl (And.intro rfl (And.intro rfl trivial))))))) fun h4 => ?_
    refine zG_run t_Net [(.aload_n 0, 0, 0), (.getfield 18, 3, 9), (.iload 4, 0, 0), (.iload_n 3, 0, 0)] (37, [some (zr (some (3, o))), some (zi v1), some (zi v2), some (zi v3), some (zi x1)], [zi v3, zi x1, zr (some (23, (o + 3)))], h4) (by decide +kernel) rfl ?_
    refine zG_guard fun hb7 => ?_
    refine zG_bind (fun y => (38, [some (zr (some (3, o))), some (zi v1), some (zi v2), some (zi v3), some (zi x1)], [], y)) (zG_astc (h' := zsI h4 (o + 3) x1.toNatClampNeg v3) rfl (by decide +kernel) hb7 rfl (zG_end (L' := [some (zr (some (3, o))), some (zi v1), some (zi v2), some (zi v3), some (zi x1)]) rfl (And.intro rfl (And.intro rfl (And.intro rfl (And.intro rfl (And.intro rfl trivial))))))) fun h6 => ?_
    refine zG_run t_Net [(.aload_n 0, 0, 0), (.getfield 21, 3, 10), (.iload 4, 0, 0), (.iconst 0, 0, 0)] (45, [some (zr (some (3, o))), some (zi v1), some (zi v2), some (zi v3), some (zi x1)], [zi 0, zi x1, zr (some (24, (o + 4)))], h6) (by decide +kernel) rfl ?_
    refine zG_guard fun hb9 => ?_
    refine zG_bind (fun y => (46, [some (zr (some (3, o))), some (zi v1), some (zi v2), some (zi v3), some (zi x1)], [], y)) (zG_astc (h' := zsI h6 (o + 4) x1.toNatClampNeg 0) rfl (by decide +kernel) hb9 rfl (zG_end (L' := [some (zr (some (3, o))), some (zi v1), some (zi v2), some (zi v3), some (zi x1)]) rfl (And.intro rfl (And.intro rfl (And.intro rfl (And.intro rfl (And.intro rfl trivial))))))) fun h8 => ?_
    exact zG_ret (r := none) rfl (zrd_v rfl (by decide +kernel))
  · exact zG_ret (r := none) rfl (zrd_v rfl (by decide +kernel))
theorem c_Net_nameNext {l : Launch} {X : zX} (hl : l.stackTraces = false) {o : Nat} {h : zH} {v1 : Int32} {v2 : Int32} {v3 : Int32} {x : zH} (hx : f_Net_nameNext o h v1 v2 v3 = some x) : zCt l (true, 2) 2 m_Net_nameNext X 0 0 [zr (some (3, o)), zi v1, zi v2, zi v3] h ((fun a => (.inl none, a) : zH → zF) x) :=
  zG_ct (R := fun a => (.inl none, a)) (x := x) ok_Net_nameNext hl (Nat.le_of_ble_eq_true rfl) hx (k_Net_nameNext hl)
def m_Parser_lineHere : zM := (({ cls := "ScanPacker$Parser", name := "lineHere", desc := "()I" } : Jvm.MethodName), prog_6_method_16_code, 3, (Option.some Jvm.ClassFile.FieldType.int), [], 3)
theorem ok_Parser_lineHere : zMok m_Parser_lineHere := ⟨by decide +kernel, zW_of 1028 (by decide +kernel) (by decide +kernel), zW_of 123 (by decide +kernel) (by decide +kernel), by decide, by decide +kernel, by decide +kernel⟩
set_option maxRecDepth 20000 in
theorem k_Parser_lineHere {l : Launch} {X : zX} (hl : l.stackTraces = false) {h : zH} : zGl l m_Parser_lineHere X 0 0 (f_Parser_lineHere h) (0, [some (zr (some (5, 1))), none, none], [], h) (fun x => .inr ((fun a => (.inl (some (zi a.1)), a.2) : Int32 × zH → zF) x)) := by
  unfold f_Parser_lineHere
  refine zG_run t_Parser [(.aload_n 0, 0, 0)] (1, [some (zr (some (5, 1))), none, none], [zr (some (5, 1))], h) (by decide +kernel) rfl ?_
  refine zG_callV (idx := 149) (R := (fun a => (some (zi a), h))) (as := []) (rest := []) (n := 0) (fun a ha => c_Parser_faultOfWord hl ha) (by decide +kernel) ⟨ok_Parser_faultOfWord, by decide, by decide +kernel⟩ rfl w_31 w_32 w_33 (by decide) rfl rfl rfl (Nat.le_of_ble_eq_true rfl) fun x1 => ?_
  refine zG_run t_Parser [(.istore_n 1, 0, 0), (.iload_n 1, 0, 0)] (6, [some (zr (some (5, 1))), some (zi x1), none], [zi x1], h) (by decide +kernel) rfl ?_
  refine zG_if (op := .eq) (off := 11) (tgt := 17) (by decide +kernel) rfl Iff.rfl (fun c7 => ?_) (fun c7 => ?_)
  · refine zG_run t_Parser [(.aload_n 0, 0, 0), (.getfield 21, 5, 1)] (21, [some (zr (some (5, 1))), some (zi x1), none], [zr (h.2.2.1 1 1)], h) (by decide +kernel) rfl ?_
    refine zG_dyn fun w2 _ => ?_
    refine zG_run t_Parser [(.aload_n 0, 0, 0), (.getfield 12, 5, 0), (.getfield 85, 9, 7)] (28, [some (zr (some (5, 1))), some (zi x1), none], [zi (h.1 2 7), zr (some (3, w2))], h) (by decide +kernel) rfl ?_
    refine zG_callV (idx := 152) (R := (fun a => (some (zi a), h))) (as := [zi (h.1 2 7)]) (rest := []) (n := 1) (fun a ha => c_Net_find hl ha) (by decide +kernel) ⟨ok_Net_find, by decide, by decide +kernel⟩ rfl w_37 w_38 w_39 (by decide) rfl rfl rfl (Nat.le_of_ble_eq_true rfl) fun x3 => ?_
    refine zG_run t_Parser [(.istore_n 2, 0, 0), (.iload_n 2, 0, 0), (.iconst (-1), 0, 0)] (34, [some (zr (some (5, 1))), some (zi x1), some (zi x3)], [zi (-1), zi x3], h) (by decide +kernel) rfl ?_
    refine zG_icmp (op := .ne) (off := 9) (tgt := 43) (by decide +kernel) rfl Iff.rfl (fun c5 => ?_) (fun c5 => ?_)
    · refine zG_run t_Parser [(.iload_n 2, 0, 0)] (44, [some (zr (some (5, 1))), some (zi x1), some (zi x3)], [zi x3], h) (by decide +kernel) rfl ?_
      exact zG_ret (r := some (zi x3)) rfl (zrd_i rfl (by decide +kernel))
    · refine zG_run t_Parser [(.aload_n 0, 0, 0), (.iconst 3, 0, 0)] (39, [some (zr (some (5, 1))), some (zi x1), some (zi x3)], [zi 3, zr (some (5, 1))], h) (by decide +kernel) rfl ?_
      refine zG_callV (idx := 71) (R := (fun a => (some (zi a.1), a.2))) (as := [zi 3]) (rest := []) (n := 1) (fun a ha => c_Parser_refuse hl ha) (by decide +kernel) ⟨ok_Parser_refuse, by decide, by decide +kernel⟩ rfl w_40 w_41 w_42 (by decide) rfl rfl rfl (Nat.le_of_ble_eq_true rfl) fun x4 => ?_
      refine zG_run t_Parser [(.pop, 0, 0), (.iload_n 2, 0, 0)] (44, [some (zr (some (5, 1))), some (zi x1), some (zi x3)], [zi x3], x4.2) (by decide +kernel) rfl ?_
      exact zG_ret (r := some (zi x3)) rfl (zrd_i rfl (by decide +kernel))
  · refine zG_run t_Parser [(.aload_n 0, 0, 0), (.iload_n 1, 0, 0)] (11, [some (zr (some (5, 1))), some (zi x1), none], [zi x1, zr (some (5, 1))], h) (by decide +kernel) rfl ?_
    refine zG_callV (idx := 71) (R := (fun a => (some (zi a.1), a.2))) (as := [zi x1]) (rest := []) (n := 1) (fun a ha => c_Parser_refuse hl ha) (by decide +kernel) ⟨ok_Parser_refuse, by decide, by decide +kernel⟩ rfl w_40 w_41 w_42 (by decide) rfl rfl rfl (Nat.le_of_ble_eq_true rfl) fun x6 => ?_
    refine zG_run t_Parser [(.pop, 0, 0), (.iconst (-1), 0, 0)] (16, [some (zr (some (5, 1))), some (zi x1), none], [zi (-1)], x6.2) (by decide +kernel) rfl ?_
    exact zG_ret (r := some (zi (-1))) rfl (zrd_i rfl (by decide +kernel))
theorem c_Parser_lineHere {l : Launch} {X : zX} (hl : l.stackTraces = false) {h : zH} {x : Int32 × zH} (hx : f_Parser_lineHere h = some x) : zCt l (true, 2) 2 m_Parser_lineHere X 0 0 [zr (some (5, 1))] h ((fun a => (.inl (some (zi a.1)), a.2) : Int32 × zH → zF) x) :=
  zG_ct (R := fun a => (.inl (some (zi a.1)), a.2)) (x := x) ok_Parser_lineHere hl (Nat.le_of_ble_eq_true rfl) hx (k_Parser_lineHere hl)
def m_Net_addFrom : zM := (({ cls := "ScanPacker$Net", name := "addFrom", desc := "(I)V" } : Jvm.MethodName), prog_4_method_10_code, 3, (Option.none : Option Jvm.ClassFile.FieldType), [], 2)
theorem ok_Net_addFrom : zMok m_Net_addFrom := ⟨by decide +kernel, zW_of 1032 (by decide +kernel) (by decide +kernel), zW_of 125 (by decide +kernel) (by decide +kernel), by decide, by decide +kernel, by decide +kernel⟩
set_option maxRecDepth 20000 in
theorem k_Net_addFrom {l : Launch} {X : zX} (hl : l.stackTraces = false) {o : Nat} {h : zH} {v1 : Int32} : zGl l m_Net_addFrom X 0 0 (f_Net_addFrom o h v1) (0, [some (zr (some (3, o))), some (zi v1), none], [], h) (fun x => .inr ((fun a => (.inl none, a) : zH → zF) x)) := by
  unfold f_Net_addFrom
  refine zG_run t_Net [(.aload_n 0, 0, 0)] (1, [some (zr (some (3, o))), some (zi v1), none], [zr (some (3, o))], h) (by decide +kernel) rfl ?_
  refine zG_callV (idx := 64) (R := (fun a => (some (zi a), h))) (as := []) (rest := []) (n := 0) (fun a ha => c_Net_lines hl ha) (by decide +kernel) ⟨ok_Net_lines, by decide, by decide +kernel⟩ rfl w_34 w_35 w_36 (by decide) rfl rfl rfl (Nat.le_of_ble_eq_true rfl) fun x1 => ?_
  refine zG_run t_Net [(.istore_n 2, 0, 0), (.iload_n 2, 0, 0), (.bipush 22, 0, 0)] (8, [some (zr (some (3, o))), some (zi v1), some (zi x1)], [zi 22, zi x1], h) (by decide +kernel) rfl ?_
  refine zG_icmp (op := .ge) (off := 13) (tgt := 21) (by decide +kernel) rfl Iff.rfl (fun c11 => ?_) (fun c11 => ?_)
  · exact zG_ret (r := none) rfl (zrd_v rfl (by decide +kernel))
  · refine zG_run t_Net [(.aload_n 0, 0, 0), (.getfield 21, 3, 10), (.iload_n 2, 0, 0)] (16, [some (zr (some (3, o))), some (zi v1), some (zi x1)], [zi x1, zr (some (24, (o + 4)))], h) (by decide +kernel) rfl ?_
    refine zG_ald (v := zi (h.1 (o + 4) x1.toNatClampNeg)) (n := 22) rfl (by decide +kernel) rfl rfl fun hb2 => ?_
    refine zG_run t_Net [(.iconst 3, 0, 0)] (18, [some (zr (some (3, o))), some (zi v1), some (zi x1)], [zi 3, zi (h.1 (o + 4) x1.toNatClampNeg)], h) (by decide +kernel) rfl ?_
    refine zG_icmp (op := .lt) (off := 4) (tgt := 22) (by decide +kernel) rfl Iff.rfl (fun c10 => ?_) (fun c10 => ?_)
    · refine zG_run t_Net [(.aload_n 0, 0, 0), (.getfield 26, 3, 11), (.iload_n 2, 0, 0)] (27, [some (zr (some (3, o))), some (zi v1), some (zi x1)], [zi x1, zr (some (25, (o + 5)))], h) (by decide +kernel) rfl ?_
      refine zG_ald (v := zr (some (26, ((o + 5) + (1 + 1 * x1.toNatClampNeg))))) (n := 22) rfl (by decide +kernel) rfl rfl fun hb3 => ?_
      refine zG_run t_Net [(.aload_n 0, 0, 0), (.getfield 21, 3, 10), (.iload_n 2, 0, 0)] (33, [some (zr (some (3, o))), some (zi v1), some (zi x1)], [zi x1, zr (some (24, (o + 4))), zr (some (26, ((o + 5) + (1 + 1 * x1.toNatClampNeg))))], h) (by decide +kernel) rfl ?_
      refine zG_ald (v := zi (h.1 (o + 4) x1.toNatClampNeg)) (n := 22) rfl (by decide +kernel) rfl rfl fun hb4 => ?_
      refine zG_run t_Net [(.iload_n 1, 0, 0)] (35, [some (zr (some (3, o))), some (zi v1), some (zi x1)], [zi v1, zi (h.1 (o + 4) x1.toNatClampNeg), zr (some (26, ((o + 5) + (1 + 1 * x1.toNatClampNeg))))], h) (by decide +kernel) rfl ?_
      refine zG_guard fun hb6 => ?_
      refine zG_bind (fun y => (36, [some (zr (some (3, o))), some (zi v1), some (zi x1)], [], y)) (zG_astc (h' := zsI h ((o + 5) + (1 + 1 * x1.toNatClampNeg)) (h.1 (o + 4) x1.toNatClampNeg).toNatClampNeg v1) rfl (by decide +kernel) hb6 rfl (zG_end (L' := [some (zr (some (3, o))), some (zi v1), some (zi x1)]) rfl (And.intro rfl (And.intro rfl (And.intro rfl trivial))))) fun h5 => ?_
      refine zG_run t_Net [(.aload_n 0, 0, 0), (.getfield 21, 3, 10), (.iload_n 2, 0, 0), (.dup2, 0, 0)] (42, [some (zr (some (3, o))), some (zi v1), some (zi x1)], [zi x1, zr (some (24, (o + 4))), zi x1, zr (some (24, (o + 4)))], h5) (by decide +kernel) rfl ?_
      refine zG_ald (v := zi (h5.1 (o + 4) x1.toNatClampNeg)) (n := 22) rfl (by decide +kernel) rfl rfl fun hb7 => ?_
      refine zG_run t_Net [(.iconst 1, 0, 0), (.iadd, 0, 0)] (45, [some (zr (some (3, o))), some (zi v1), some (zi x1)], [zi ((h5.1 (o + 4) x1.toNatClampNeg) + 1), zi x1, zr (some (24, (o + 4)))], h5) (by decide +kernel) rfl ?_
      refine zG_guard fun hb9 => ?_
      refine zG_bind (fun y => (46, [some (zr (some (3, o))), some (zi v1), some (zi x1)], [], y)) (zG_astc (h' := zsI h5 (o + 4) x1.toNatClampNeg ((h5.1 (o + 4) x1.toNatClampNeg) + 1)) rfl (by decide +kernel) hb9 rfl (zG_end (L' := [some (zr (some (3, o))), some (zi v1), some (zi x1)]) rfl (And.intro rfl (And.intro rfl (And.intro rfl trivial))))) fun h8 => ?_
      exact zG_ret (r := none) rfl (zrd_v rfl (by decide +kernel))
    · exact zG_ret (r := none) rfl (zrd_v rfl (by decide +kernel))
theorem c_Net_addFrom {l : Launch} {X : zX} (hl : l.stackTraces = false) {o : Nat} {h : zH} {v1 : Int32} {x : zH} (hx : f_Net_addFrom o h v1 = some x) : zCt l (true, 2) 2 m_Net_addFrom X 0 0 [zr (some (3, o)), zi v1] h ((fun a => (.inl none, a) : zH → zF) x) :=
  zG_ct (R := fun a => (.inl none, a)) (x := x) ok_Net_addFrom hl (Nat.le_of_ble_eq_true rfl) hx (k_Net_addFrom hl)
def m_Parser_readFrom : zM := (({ cls := "ScanPacker$Parser", name := "readFrom", desc := "(II)Z" } : Jvm.MethodName), prog_6_method_8_code, 5, (Option.some Jvm.ClassFile.FieldType.boolean), [], 4)
theorem ok_Parser_readFrom : zMok m_Parser_readFrom := ⟨by decide +kernel, zW_of 1024 (by decide +kernel) (by decide +kernel), zW_of 123 (by decide +kernel) (by decide +kernel), by decide, by decide +kernel, by decide +kernel⟩
set_option maxRecDepth 20000 in
theorem k_Parser_readFrom_j45 {l : Launch} {X : zX} (hl : l.stackTraces = false) {h : zH} {v1 : Int32} {v2 : Int32} {v3 : Int32} : zGl l m_Parser_readFrom X 0 0 (f_Parser_readFrom_j45 h v1 v2 v3) (45, [some (zr (some (5, 1))), some (zi v1), some (zi v2), some (zi v3), none], [], h) (Sum.elim (fun s : Int32 × zH => .inl (2, [some (zr (some (5, 1))), some (zi v1), some (zi v2), some (zi s.1), none], [], s.2)) (Sum.elim (fun y : zH => .inl (30, [some (zr (some (5, 1))), none, none, none, none], [], y)) (Sum.elim (fun y : zH => .inl (50, [some (zr (some (5, 1))), none, none, none, none], [], y)) (Sum.elim (fun y : zH => .inl (68, [none, none, none, none, none], [], y)) (fun y : zH => .inl (85, [some (zr (some (5, 1))), none, none, none, none], [], y)))))) := by
  unfold f_Parser_readFrom_j45
  refine zG_run t_Parser [(.iload_n 3, 0, 0), (.iload_n 2, 0, 0)] (47, [some (zr (some (5, 1))), some (zi v1), some (zi v2), some (zi v3), none], [zi v2, zi v3], h) (by decide +kernel) rfl ?_
  refine zG_icmp (op := .ne) (off := 9) (tgt := 56) (by decide +kernel) rfl Iff.rfl (fun c6 => ?_) (fun c6 => ?_)
  · refine zG_run t_Parser [(.aload_n 0, 0, 0)] (57, [some (zr (some (5, 1))), some (zi v1), some (zi v2), some (zi v3), none], [zr (some (5, 1))], h) (by decide +kernel) rfl ?_
    refine zG_callV (idx := 103) (R := (fun a => (some (zi a.1), a.2))) (as := []) (rest := []) (n := 0) (fun a ha => c_Parser_lineHere hl ha) (by decide +kernel) ⟨ok_Parser_lineHere, by decide, by decide +kernel⟩ rfl w_49 w_50 w_51 (by decide) rfl rfl rfl (Nat.le_of_ble_eq_true rfl) fun x2 => ?_
    refine zG_run t_Parser [(.istore 4, 0, 0), (.iload 4, 0, 0), (.iconst (-1), 0, 0)] (65, [some (zr (some (5, 1))), some (zi v1), some (zi v2), some (zi v3), some (zi x2.1)], [zi (-1), zi x2.1], x2.2) (by decide +kernel) rfl ?_
    refine zG_icmp (op := .ne) (off := 5) (tgt := 70) (by decide +kernel) rfl Iff.rfl (fun c5 => ?_) (fun c5 => ?_)
    · refine zG_run t_Parser [(.aload_n 0, 0, 0), (.getfield 21, 5, 1)] (74, [some (zr (some (5, 1))), some (zi v1), some (zi v2), some (zi v3), some (zi x2.1)], [zr (x2.2.2.2.1 1 1)], x2.2) (by decide +kernel) rfl ?_
      refine zG_dyn fun w3 _ => ?_
      refine zG_run t_Parser [(.iload 4, 0, 0)] (76, [some (zr (some (5, 1))), some (zi v1), some (zi v2), some (zi v3), some (zi x2.1)], [zi x2.1, zr (some (3, w3))], x2.2) (by decide +kernel) rfl ?_
      refine zG_callV (idx := 107) (R := (fun a => (none, a))) (as := [zi x2.1]) (rest := []) (n := 1) (fun a ha => c_Net_addFrom hl ha) (by decide +kernel) ⟨ok_Net_addFrom, by decide, by decide +kernel⟩ rfl w_52 w_53 w_54 (by decide) rfl rfl rfl (Nat.le_of_ble_eq_true rfl) fun x4 => ?_
      refine zG_run t_Parser [(.iinc 3 1, 0, 0), (.goto (-80), 0, 0)] (2, [some (zr (some (5, 1))), some (zi v1), some (zi v2), some (zi (v3 + 1)), some (zi x2.1)], [], x4) (by decide +kernel) rfl ?_
      exact zG_end (L' := [some (zr (some (5, 1))), some (zi v1), some (zi v2), some (zi (v3 + 1)), none]) rfl (And.intro rfl (And.intro rfl (And.intro rfl (And.intro rfl trivial))))
    · exact zG_end (L' := [none, none, none, none, none]) rfl (trivial)
  · exact zG_end (L' := [some (zr (some (5, 1))), none, none, none, none]) rfl (And.intro rfl trivial)
set_option maxRecDepth 20000 in
theorem k_Parser_readFrom_b2 {l : Launch} {X : zX} (hl : l.stackTraces = false) {h : zH} {v1 : Int32} {v2 : Int32} {v3 : Int32} : zGl l m_Parser_readFrom X 0 0 (f_Parser_readFrom_b2 h v1 v2 v3) (2, [some (zr (some (5, 1))), some (zi v1), some (zi v2), some (zi v3), none], [], h) (Sum.elim (fun s : Int32 × zH => .inl (2, [some (zr (some (5, 1))), some (zi v1), some (zi v2), some (zi s.1), none], [], s.2)) (Sum.elim (fun y : zH => .inl (30, [some (zr (some (5, 1))), none, none, none, none], [], y)) (Sum.elim (fun y : zH => .inl (50, [some (zr (some (5, 1))), none, none, none, none], [], y)) (Sum.elim (fun y : zH => .inl (68, [none, none, none, none, none], [], y)) (fun y : zH => .inl (85, [some (zr (some (5, 1))), none, none, none, none], [], y)))))) := by
  unfold f_Parser_readFrom_b2
  refine zG_run t_Parser [(.iload_n 3, 0, 0), (.iload_n 2, 0, 0)] (4, [some (zr (some (5, 1))), some (zi v1), some (zi v2), some (zi v3), none], [zi v2, zi v3], h) (by decide +kernel) rfl ?_
  refine zG_icmp (op := .gt) (off := 81) (tgt := 85) (by decide +kernel) rfl Iff.rfl (fun c9 => ?_) (fun c9 => ?_)
  · exact zG_end (L' := [some (zr (some (5, 1))), none, none, none, none]) rfl (And.intro rfl trivial)
  · refine zG_run t_Parser [(.aload_n 0, 0, 0), (.getfield 12, 5, 0)] (11, [some (zr (some (5, 1))), some (zi v1), some (zi v2), some (zi v3), none], [zr (some (9, 2))], h) (by decide +kernel) rfl ?_
    refine zG_callV (idx := 39) (R := (fun a => (none, a))) (as := []) (rest := []) (n := 0) (fun a ha => c_Tape_advance hl ha) (by decide +kernel) ⟨ok_Tape_advance, by decide, by decide +kernel⟩ rfl w_28 w_29 w_30 (by decide) rfl rfl rfl (Nat.le_of_ble_eq_true rfl) fun x1 => ?_
    refine zG_run t_Parser [(.iload_n 3, 0, 0), (.iload_n 1, 0, 0)] (16, [some (zr (some (5, 1))), some (zi v1), some (zi v2), some (zi v3), none], [zi v1, zi v3], x1) (by decide +kernel) rfl ?_
    refine zG_icmp (op := .lt) (off := 29) (tgt := 45) (by decide +kernel) rfl Iff.rfl (fun c8 => ?_) (fun c8 => ?_)
    · exact zG_forget (L' := [some (zr (some (5, 1))), some (zi v1), some (zi v2), some (zi v3), none]) (And.intro rfl (And.intro rfl (And.intro rfl (And.intro rfl trivial)))) (k_Parser_readFrom_j45 hl)
    · refine zG_run t_Parser [(.aload_n 0, 0, 0), (.getfield 12, 5, 0), (.getfield 42, 9, 4), (.iconst 3, 0, 0)] (27, [some (zr (some (5, 1))), some (zi v1), some (zi v2), some (zi v3), none], [zi 3, zi (x1.1 2 4)], x1) (by decide +kernel) rfl ?_
      refine zG_icmp (op := .ne) (off := 18) (tgt := 45) (by decide +kernel) rfl Iff.rfl (fun c7 => ?_) (fun c7 => ?_)
      · exact zG_forget (L' := [some (zr (some (5, 1))), some (zi v1), some (zi v2), some (zi v3), none]) (And.intro rfl (And.intro rfl (And.intro rfl (And.intro rfl trivial)))) (k_Parser_readFrom_j45 hl)
      · exact zG_end (L' := [some (zr (some (5, 1))), none, none, none, none]) rfl (And.intro rfl trivial)
set_option maxRecDepth 20000 in
theorem k_Parser_readFrom {l : Launch} {X : zX} (hl : l.stackTraces = false) {h : zH} {v1 : Int32} {v2 : Int32} : zGl l m_Parser_readFrom X 0 0 (f_Parser_readFrom h v1 v2) (0, [some (zr (some (5, 1))), some (zi v1), some (zi v2), none, none], [], h) (fun x => .inr ((fun a => (.inl (some (zi a.1)), a.2) : Int32 × zH → zF) x)) := by
  unfold f_Parser_readFrom
  refine zG_run t_Parser [(.iconst 0, 0, 0), (.istore_n 3, 0, 0)] (2, [some (zr (some (5, 1))), some (zi v1), some (zi v2), some (zi 0), none], [], h) (by decide +kernel) rfl ?_
  refine zG_forget (L' := [some (zr (some (5, 1))), some (zi v1), some (zi v2), some (zi 0), none]) (And.intro rfl (And.intro rfl (And.intro rfl (And.intro rfl trivial)))) ?_
  refine zG_bind4 (fun y : zH => (30, [some (zr (some (5, 1))), none, none, none, none], [], y)) (fun y : zH => (50, [some (zr (some (5, 1))), none, none, none, none], [], y)) (fun y : zH => (68, [none, none, none, none, none], [], y)) (fun y : zH => (85, [some (zr (some (5, 1))), none, none, none, none], [], y)) (zG_iter (fun s : Int32 × zH => (2, [some (zr (some (5, 1))), some (zi v1), some (zi v2), some (zi s.1), none], [], s.2)) fun s => k_Parser_readFrom_b2 hl) (fun y11 => ?_) (fun y14 => ?_) (fun y17 => ?_) (fun y18 => ?_)
  · refine zG_run t_Parser [(.aload_n 0, 0, 0), (.getfield 21, 5, 1)] (34, [some (zr (some (5, 1))), none, none, none, none], [zr (y11.2.2.1 1 1)], y11) (by decide +kernel) rfl ?_
    refine zG_dyn fun w12 _ => ?_
    refine zG_bind (fun y => (43, [some (zr (some (5, 1))), none, none, none, none], [], y)) (zG_run t_Parser [(.dup, 0, 0), (.getfield 75, 3, 1), (.iconst 1, 0, 0), (.iadd, 0, 0), (.putfield 75, 3, 1)] (43, [some (zr (some (5, 1))), none, none, none, none], [], zsI y11 w12 1 ((y11.1 w12 1) + 1)) (by decide +kernel) rfl (zG_end (L' := [some (zr (some (5, 1))), none, none, none, none]) rfl (And.intro rfl trivial))) fun h13 => ?_
    refine zG_run t_Parser [(.iconst 1, 0, 0)] (44, [some (zr (some (5, 1))), none, none, none, none], [zi 1], h13) (by decide +kernel) rfl ?_
    exact zG_ret (r := some (zi 1)) rfl (zrd_z rfl (by decide +kernel) rfl)
  · refine zG_run t_Parser [(.aload_n 0, 0, 0), (.iconst 1, 0, 0)] (52, [some (zr (some (5, 1))), none, none, none, none], [zi 1, zr (some (5, 1))], y14) (by decide +kernel) rfl ?_
    refine zG_callV (idx := 71) (R := (fun a => (some (zi a.1), a.2))) (as := [zi 1]) (rest := []) (n := 1) (fun a ha => c_Parser_refuse hl ha) (by decide +kernel) ⟨ok_Parser_refuse, by decide, by decide +kernel⟩ rfl w_40 w_41 w_42 (by decide) rfl rfl rfl (Nat.le_of_ble_eq_true rfl) fun x15 => ?_
    refine zG_guard fun hb16 => ?_
    exact zG_ret (r := some (zi x15.1)) rfl (zrd_z rfl (by decide +kernel) hb16)
  · refine zG_run t_Parser [(.iconst 0, 0, 0)] (69, [none, none, none, none, none], [zi 0], y17) (by decide +kernel) rfl ?_
    exact zG_ret (r := some (zi 0)) rfl (zrd_z rfl (by decide +kernel) rfl)
  · refine zG_run t_Parser [(.aload_n 0, 0, 0), (.iconst 1, 0, 0)] (87, [some (zr (some (5, 1))), none, none, none, none], [zi 1, zr (some (5, 1))], y18) (by decide +kernel) rfl ?_
    refine zG_callV (idx := 71) (R := (fun a => (some (zi a.1), a.2))) (as := [zi 1]) (rest := []) (n := 1) (fun a ha => c_Parser_refuse hl ha) (by decide +kernel) ⟨ok_Parser_refuse, by decide, by decide +kernel⟩ rfl w_40 w_41 w_42 (by decide) rfl rfl rfl (Nat.le_of_ble_eq_true rfl) fun x19 => ?_
    refine zG_guard fun hb20 => ?_
    exact zG_ret (r := some (zi x19.1)) rfl (zrd_z rfl (by decide +kernel) hb20)
theorem c_Parser_readFrom {l : Launch} {X : zX} (hl : l.stackTraces = false) {h : zH} {v1 : Int32} {v2 : Int32} {x : Int32 × zH} (hx : f_Parser_readFrom h v1 v2 = some x) : zCt l (true, 2) 2 m_Parser_readFrom X 0 0 [zr (some (5, 1)), zi v1, zi v2] h ((fun a => (.inl (some (zi a.1)), a.2) : Int32 × zH → zF) x) :=
  zG_ct (R := fun a => (.inl (some (zi a.1)), a.2)) (x := x) ok_Parser_readFrom hl (Nat.le_of_ble_eq_true rfl) hx (k_Parser_readFrom hl)
def m_Parser_readGate : zM := (({ cls := "ScanPacker$Parser", name := "readGate", desc := "()Z" } : Jvm.MethodName), prog_6_method_7_code, 4, (Option.some Jvm.ClassFile.FieldType.boolean), [], 5)
theorem ok_Parser_readGate : zMok m_Parser_readGate := ⟨by decide +kernel, zW_of 1019 (by decide +kernel) (by decide +kernel), zW_of 123 (by decide +kernel) (by decide +kernel), by decide, by decide +kernel, by decide +kernel⟩
set_option maxRecDepth 20000 in
theorem k_Parser_readGate_j123 {l : Launch} {X : zX} (hl : l.stackTraces = false) {h : zH} {t0 : Int32} {t1 : Int32} : zGl l m_Parser_readGate X 0 0 (f_Parser_readGate_j123 h t0 t1) (123, [none, none, none, none], [zi t0, zi t1, zr (some (5, 1))], h) (fun x => .inr ((fun a => (.inl (some (zi a.1)), a.2) : Int32 × zH → zF) x)) := by
  unfold f_Parser_readGate_j123
  refine zG_callV (idx := 99) (R := (fun a => (some (zi a.1), a.2))) (as := [zi t1, zi t0]) (rest := []) (n := 2) (fun a ha => c_Parser_readFrom hl ha) (by decide +kernel) ⟨ok_Parser_readFrom, by decide, by decide +kernel⟩ rfl w_55 w_56 w_57 (by decide) rfl rfl rfl (Nat.le_of_ble_eq_true rfl) fun x7 => ?_
  refine zG_guard fun hb8 => ?_
  exact zG_ret (r := some (zi x7.1)) rfl (zrd_z rfl (by decide +kernel) hb8)
set_option maxRecDepth 20000 in
theorem k_Parser_readGate_j114 {l : Launch} {X : zX} (hl : l.stackTraces = false) {h : zH} {v3 : Int32} {t0 : Int32} : zGl l m_Parser_readGate X 0 0 (f_Parser_readGate_j114 h v3 t0) (114, [none, none, none, some (zi v3)], [zi t0, zr (some (5, 1))], h) (fun x => .inr ((fun a => (.inl (some (zi a.1)), a.2) : Int32 × zH → zF) x)) := by
  unfold f_Parser_readGate_j114
  refine zG_run t_Parser [(.iload_n 3, 0, 0)] (115, [none, none, none, some (zi v3)], [zi v3, zi t0, zr (some (5, 1))], h) (by decide +kernel) rfl ?_
  refine zG_if (op := .ne) (off := 7) (tgt := 122) (by decide +kernel) rfl Iff.rfl (fun c9 => ?_) (fun c9 => ?_)
  · refine zG_run t_Parser [(.iconst 3, 0, 0)] (123, [none, none, none, some (zi v3)], [zi 3, zi t0, zr (some (5, 1))], h) (by decide +kernel) rfl ?_
    exact zG_forget (L' := [none, none, none, none]) (trivial) (k_Parser_readGate_j123 hl)
  · refine zG_run t_Parser [(.iconst 1, 0, 0), (.goto 4, 0, 0)] (123, [none, none, none, some (zi v3)], [zi 1, zi t0, zr (some (5, 1))], h) (by decide +kernel) rfl ?_
    exact zG_forget (L' := [none, none, none, none]) (trivial) (k_Parser_readGate_j123 hl)
set_option maxRecDepth 20000 in
theorem k_Parser_readGate_j18 {l : Launch} {X : zX} (hl : l.stackTraces = false) {h : zH} {t0 : Int32} : zGl l m_Parser_readGate X 0 0 (f_Parser_readGate_j18 h t0) (18, [some (zr (some (5, 1))), none, none, none], [zi t0, zr (some (5, 1))], h) (fun x => .inr ((fun a => (.inl (some (zi a.1)), a.2) : Int32 × zH → zF) x)) := by
  unfold f_Parser_readGate_j18
  refine zG_callV (idx := 81) (R := (fun a => (some (zi a.1), a.2))) (as := [zi t0]) (rest := []) (n := 1) (fun a ha => c_Parser_isNewName hl ha) (by decide +kernel) ⟨ok_Parser_isNewName, by decide, by decide +kernel⟩ rfl w_43 w_44 w_45 (by decide) rfl rfl rfl (Nat.le_of_ble_eq_true rfl) fun x2 => ?_
  refine zG_if (op := .ne) (off := 5) (tgt := 26) (by decide +kernel) rfl Iff.rfl (fun c17 => ?_) (fun c17 => ?_)
  · refine zG_run t_Parser [(.aload_n 0, 0, 0), (.getfield 12, 5, 0), (.getfield 85, 9, 7), (.istore_n 1, 0, 0), (.aload_n 0, 0, 0), (.getfield 12, 5, 0), (.getfield 88, 9, 6), (.istore_n 2, 0, 0), (.aload_n 0, 0, 0), (.getfield 12, 5, 0)] (46, [some (zr (some (5, 1))), some (zi (x2.2.1 2 7)), some (zi (x2.2.1 2 6)), none], [zr (some (9, 2))], x2.2) (by decide +kernel) rfl ?_
    refine zG_callV (idx := 39) (R := (fun a => (none, a))) (as := []) (rest := []) (n := 0) (fun a ha => c_Tape_advance hl ha) (by decide +kernel) ⟨ok_Tape_advance, by decide, by decide +kernel⟩ rfl w_28 w_29 w_30 (by decide) rfl rfl rfl (Nat.le_of_ble_eq_true rfl) fun x3 => ?_
    refine zG_run t_Parser [(.aload_n 0, 0, 0), (.getfield 12, 5, 0), (.getfield 42, 9, 4), (.iconst 4, 0, 0)] (57, [some (zr (some (5, 1))), some (zi (x2.2.1 2 7)), some (zi (x2.2.1 2 6)), none], [zi 4, zi (x3.1 2 4)], x3) (by decide +kernel) rfl ?_
    refine zG_icmp (op := .eq) (off := 9) (tgt := 66) (by decide +kernel) rfl Iff.rfl (fun c16 => ?_) (fun c16 => ?_)
    · refine zG_run t_Parser [(.aload_n 0, 0, 0), (.getfield 12, 5, 0)] (70, [some (zr (some (5, 1))), some (zi (x2.2.1 2 7)), some (zi (x2.2.1 2 6)), none], [zr (some (9, 2))], x3) (by decide +kernel) rfl ?_
      refine zG_callV (idx := 39) (R := (fun a => (none, a))) (as := []) (rest := []) (n := 0) (fun a ha => c_Tape_advance hl ha) (by decide +kernel) ⟨ok_Tape_advance, by decide, by decide +kernel⟩ rfl w_28 w_29 w_30 (by decide) rfl rfl rfl (Nat.le_of_ble_eq_true rfl) fun x4 => ?_
      refine zG_run t_Parser [(.aload_n 0, 0, 0), (.getfield 12, 5, 0), (.getfield 42, 9, 4), (.bipush 11, 0, 0), (.isub, 0, 0), (.istore_n 3, 0, 0), (.iload_n 3, 0, 0)] (85, [some (zr (some (5, 1))), some (zi (x2.2.1 2 7)), some (zi (x2.2.1 2 6)), some (zi ((x4.1 2 4) - 11))], [zi ((x4.1 2 4) - 11)], x4) (by decide +kernel) rfl ?_
      refine zG_if (op := .ge) (off := 9) (tgt := 94) (by decide +kernel) rfl Iff.rfl (fun c13 => ?_) (fun c13 => ?_)
      · refine zG_run t_Parser [(.aload_n 0, 0, 0), (.getfield 21, 5, 1)] (98, [some (zr (some (5, 1))), some (zi (x2.2.1 2 7)), some (zi (x2.2.1 2 6)), some (zi ((x4.1 2 4) - 11))], [zr (x4.2.2.1 1 1)], x4) (by decide +kernel) rfl ?_
        refine zG_dyn fun w5 _ => ?_
        refine zG_run t_Parser [(.iload_n 1, 0, 0), (.iload_n 2, 0, 0), (.iload_n 3, 0, 0)] (101, [some (zr (some (5, 1))), some (zi (x2.2.1 2 7)), some (zi (x2.2.1 2 6)), some (zi ((x4.1 2 4) - 11))], [zi ((x4.1 2 4) - 11), zi (x2.2.1 2 6), zi (x2.2.1 2 7), zr (some (3, w5))], x4) (by decide +kernel) rfl ?_
        refine zG_callV (idx := 95) (R := (fun a => (none, a))) (as := [zi (x2.2.1 2 7), zi (x2.2.1 2 6), zi ((x4.1 2 4) - 11)]) (rest := []) (n := 3) (fun a ha => c_Net_nameNext hl ha) (by decide +kernel) ⟨ok_Net_nameNext, by decide, by decide +kernel⟩ rfl w_46 w_47 w_48 (by decide) rfl rfl rfl (Nat.le_of_ble_eq_true rfl) fun x6 => ?_
        refine zG_run t_Parser [(.aload_n 0, 0, 0), (.iload_n 3, 0, 0)] (106, [some (zr (some (5, 1))), some (zi (x2.2.1 2 7)), some (zi (x2.2.1 2 6)), some (zi ((x4.1 2 4) - 11))], [zi ((x4.1 2 4) - 11), zr (some (5, 1))], x6) (by decide +kernel) rfl ?_
        refine zG_if (op := .ne) (off := 7) (tgt := 113) (by decide +kernel) rfl Iff.rfl (fun c10 => ?_) (fun c10 => ?_)
        · refine zG_run t_Parser [(.iconst 2, 0, 0)] (114, [some (zr (some (5, 1))), some (zi (x2.2.1 2 7)), some (zi (x2.2.1 2 6)), some (zi ((x4.1 2 4) - 11))], [zi 2, zr (some (5, 1))], x6) (by decide +kernel) rfl ?_
          exact zG_forget (L' := [none, none, none, some (zi ((x4.1 2 4) - 11))]) (And.intro rfl trivial) (k_Parser_readGate_j114 hl)
        · refine zG_run t_Parser [(.iconst 1, 0, 0), (.goto 4, 0, 0)] (114, [some (zr (some (5, 1))), some (zi (x2.2.1 2 7)), some (zi (x2.2.1 2 6)), some (zi ((x4.1 2 4) - 11))], [zi 1, zr (some (5, 1))], x6) (by decide +kernel) rfl ?_
          exact zG_forget (L' := [none, none, none, some (zi ((x4.1 2 4) - 11))]) (And.intro rfl trivial) (k_Parser_readGate_j114 hl)
      · refine zG_run t_Parser [(.aload_n 0, 0, 0), (.iconst 1, 0, 0)] (90, [some (zr (some (5, 1))), some (zi (x2.2.1 2 7)), some (zi (x2.2.1 2 6)), some (zi ((x4.1 2 4) - 11))], [zi 1, zr (some (5, 1))], x4) (by decide +kernel) rfl ?_
        refine zG_callV (idx := 71) (R := (fun a => (some (zi a.1), a.2))) (as := [zi 1]) (rest := []) (n := 1) (fun a ha => c_Parser_refuse hl ha) (by decide +kernel) ⟨ok_Parser_refuse, by decide, by decide +kernel⟩ rfl w_40 w_41 w_42 (by decide) rfl rfl rfl (Nat.le_of_ble_eq_true rfl) fun x11 => ?_
        refine zG_guard fun hb12 => ?_
        exact zG_ret (r := some (zi x11.1)) rfl (zrd_z rfl (by decide +kernel) hb12)
    · refine zG_run t_Parser [(.aload_n 0, 0, 0), (.iconst 1, 0, 0)] (62, [some (zr (some (5, 1))), some (zi (x2.2.1 2 7)), some (zi (x2.2.1 2 6)), none], [zi 1, zr (some (5, 1))], x3) (by decide +kernel) rfl ?_
      refine zG_callV (idx := 71) (R := (fun a => (some (zi a.1), a.2))) (as := [zi 1]) (rest := []) (n := 1) (fun a ha => c_Parser_refuse hl ha) (by decide +kernel) ⟨ok_Parser_refuse, by decide, by decide +kernel⟩ rfl w_40 w_41 w_42 (by decide) rfl rfl rfl (Nat.le_of_ble_eq_true rfl) fun x14 => ?_
      refine zG_guard fun hb15 => ?_
      exact zG_ret (r := some (zi x14.1)) rfl (zrd_z rfl (by decide +kernel) hb15)
  · refine zG_run t_Parser [(.iconst 0, 0, 0)] (25, [some (zr (some (5, 1))), none, none, none], [zi 0], x2.2) (by decide +kernel) rfl ?_
    exact zG_ret (r := some (zi 0)) rfl (zrd_z rfl (by decide +kernel) rfl)
set_option maxRecDepth 20000 in
theorem k_Parser_readGate {l : Launch} {X : zX} (hl : l.stackTraces = false) {h : zH} : zGl l m_Parser_readGate X 0 0 (f_Parser_readGate h) (0, [some (zr (some (5, 1))), none, none, none], [], h) (fun x => .inr ((fun a => (.inl (some (zi a.1)), a.2) : Int32 × zH → zF) x)) := by
  unfold f_Parser_readGate
  refine zG_run t_Parser [(.aload_n 0, 0, 0), (.aload_n 0, 0, 0), (.getfield 21, 5, 1)] (5, [some (zr (some (5, 1))), none, none, none], [zr (h.2.2.1 1 1), zr (some (5, 1))], h) (by decide +kernel) rfl ?_
  refine zG_dyn fun w1 _ => ?_
  refine zG_run t_Parser [(.getfield 75, 3, 1), (.bipush 16, 0, 0)] (10, [some (zr (some (5, 1))), none, none, none], [zi 16, zi (h.1 w1 1), zr (some (5, 1))], h) (by decide +kernel) rfl ?_
  refine zG_icmp (op := .ge) (off := 7) (tgt := 17) (by decide +kernel) rfl Iff.rfl (fun c18 => ?_) (fun c18 => ?_)
  · refine zG_run t_Parser [(.iconst 0, 0, 0)] (18, [some (zr (some (5, 1))), none, none, none], [zi 0, zr (some (5, 1))], h) (by decide +kernel) rfl ?_
    exact zG_forget (L' := [some (zr (some (5, 1))), none, none, none]) (And.intro rfl trivial) (k_Parser_readGate_j18 hl)
  · refine zG_run t_Parser [(.iconst 1, 0, 0), (.goto 4, 0, 0)] (18, [some (zr (some (5, 1))), none, none, none], [zi 1, zr (some (5, 1))], h) (by decide +kernel) rfl ?_
    exact zG_forget (L' := [some (zr (some (5, 1))), none, none, none]) (And.intro rfl trivial) (k_Parser_readGate_j18 hl)
theorem c_Parser_readGate {l : Launch} {X : zX} (hl : l.stackTraces = false) {h : zH} {x : Int32 × zH} (hx : f_Parser_readGate h = some x) : zCt l (true, 2) 2 m_Parser_readGate X 0 0 [zr (some (5, 1))] h ((fun a => (.inl (some (zi a.1)), a.2) : Int32 × zH → zF) x) :=
  zG_ct (R := fun a => (.inl (some (zi a.1)), a.2)) (x := x) ok_Parser_readGate hl (Nat.le_of_ble_eq_true rfl) hx (k_Parser_readGate hl)
def m_Net_addInput : zM := (({ cls := "ScanPacker$Net", name := "addInput", desc := "(II)V" } : Jvm.MethodName), prog_4_method_8_code, 3, (Option.none : Option Jvm.ClassFile.FieldType), [], 3)
theorem ok_Net_addInput : zMok m_Net_addInput := ⟨by decide +kernel, zW_of 1011 (by decide +kernel) (by decide +kernel), zW_of 125 (by decide +kernel) (by decide +kernel), by decide, by decide +kernel, by decide +kernel⟩
set_option maxRecDepth 20000 in
theorem k_Net_addInput {l : Launch} {X : zX} (hl : l.stackTraces = false) {o : Nat} {h : zH} {v1 : Int32} {v2 : Int32} : zGl l m_Net_addInput X 0 0 (f_Net_addInput o h v1 v2) (0, [some (zr (some (3, o))), some (zi v1), some (zi v2)], [], h) (fun x => .inr ((fun a => (.inl none, a) : zH → zF) x)) := by
  unfold f_Net_addInput
  refine zG_run t_Net [(.aload_n 0, 0, 0), (.getfield 41, 3, 0), (.bipush 6, 0, 0)] (6, [some (zr (some (3, o))), some (zi v1), some (zi v2)], [zi 6, zi (h.1 o 0)], h) (by decide +kernel) rfl ?_
  refine zG_icmp (op := .lt) (off := 4) (tgt := 10) (by decide +kernel) rfl Iff.rfl (fun c7 => ?_) (fun c7 => ?_)
  · refine zG_run t_Net [(.aload_n 0, 0, 0), (.iload_n 1, 0, 0), (.iload_n 2, 0, 0), (.iconst (-1), 0, 0)] (14, [some (zr (some (3, o))), some (zi v1), some (zi v2)], [zi (-1), zi v2, zi v1, zr (some (3, o))], h) (by decide +kernel) rfl ?_
    refine zG_callV (idx := 72) (R := (fun a => (none, a))) (as := [zi v1, zi v2, zi (-1)]) (rest := []) (n := 3) (fun a ha => c_Net_nameNext hl ha) (by decide +kernel) ⟨ok_Net_nameNext, by decide, by decide +kernel⟩ rfl w_61 w_47 w_48 (by decide) rfl rfl rfl (Nat.le_of_ble_eq_true rfl) fun x1 => ?_
    refine zG_run t_Net [(.aload_n 0, 0, 0), (.getfield 29, 3, 12), (.aload_n 0, 0, 0), (.getfield 41, 3, 0), (.iconst (-1), 0, 0)] (26, [some (zr (some (3, o))), some (zi v1), some (zi v2)], [zi (-1), zi (x1.1 o 0), zr (some (27, (o + 28)))], x1) (by decide +kernel) rfl ?_
    refine zG_guard fun hb3 => ?_
    refine zG_bind (fun y => (27, [some (zr (some (3, o))), some (zi v1), some (zi v2)], [], y)) (zG_astc (h' := zsI x1 (o + 28) (x1.1 o 0).toNatClampNeg (-1)) rfl (by decide +kernel) hb3 rfl (zG_end (L' := [some (zr (some (3, o))), some (zi v1), some (zi v2)]) rfl (And.intro rfl (And.intro rfl (And.intro rfl trivial))))) fun h2 => ?_
    refine zG_run t_Net [(.aload_n 0, 0, 0), (.getfield 32, 3, 13), (.aload_n 0, 0, 0), (.getfield 41, 3, 0), (.iconst (-1), 0, 0)] (36, [some (zr (some (3, o))), some (zi v1), some (zi v2)], [zi (-1), zi (h2.1 o 0), zr (some (28, (o + 29)))], h2) (by decide +kernel) rfl ?_
    refine zG_guard fun hb5 => ?_
    refine zG_bind (fun y => (37, [some (zr (some (3, o))), some (zi v1), some (zi v2)], [], y)) (zG_astc (h' := zsI h2 (o + 29) (h2.1 o 0).toNatClampNeg (-1)) rfl (by decide +kernel) hb5 rfl (zG_end (L' := [some (zr (some (3, o))), some (zi v1), some (zi v2)]) rfl (And.intro rfl (And.intro rfl (And.intro rfl trivial))))) fun h4 => ?_
    refine zG_bind (fun y => (47, [some (zr (some (3, o))), some (zi v1), some (zi v2)], [], y)) (zG_run t_Net [(.aload_n 0, 0, 0), (.dup, 0, 0), (.getfield 41, 3, 0), (.iconst 1, 0, 0), (.iadd, 0, 0), (.putfield 41, 3, 0)] (47, [some (zr (some (3, o))), some (zi v1), some (zi v2)], [], zsI h4 o 0 ((h4.1 o 0) + 1)) (by decide +kernel) rfl (zG_end (L' := [some (zr (some (3, o))), some (zi v1), some (zi v2)]) rfl (And.intro rfl (And.intro rfl (And.intro rfl trivial))))) fun h6 => ?_
    exact zG_ret (r := none) rfl (zrd_v rfl (by decide +kernel))
  · exact zG_ret (r := none) rfl (zrd_v rfl (by decide +kernel))
theorem c_Net_addInput {l : Launch} {X : zX} (hl : l.stackTraces = false) {o : Nat} {h : zH} {v1 : Int32} {v2 : Int32} {x : zH} (hx : f_Net_addInput o h v1 v2 = some x) : zCt l (true, 2) 2 m_Net_addInput X 0 0 [zr (some (3, o)), zi v1, zi v2] h ((fun a => (.inl none, a) : zH → zF) x) :=
  zG_ct (R := fun a => (.inl none, a)) (x := x) ok_Net_addInput hl (Nat.le_of_ble_eq_true rfl) hx (k_Net_addInput hl)
def m_Parser_readIn : zM := (({ cls := "ScanPacker$Parser", name := "readIn", desc := "()Z" } : Jvm.MethodName), prog_6_method_6_code, 2, (Option.some Jvm.ClassFile.FieldType.boolean), [], 4)
theorem ok_Parser_readIn : zMok m_Parser_readIn := ⟨by decide +kernel, zW_of 991 (by decide +kernel) (by decide +kernel), zW_of 123 (by decide +kernel) (by decide +kernel), by decide, by decide +kernel, by decide +kernel⟩
set_option maxRecDepth 20000 in
theorem k_Parser_readIn_j67 {l : Launch} {X : zX} (hl : l.stackTraces = false) {h : zH} {v1 : Int32} {t0 : Int32} : zGl l m_Parser_readIn X 0 0 (f_Parser_readIn_j67 h v1 t0) (67, [some (zr (some (5, 1))), some (zi v1)], [zi t0, zr (some (5, 1))], h) (Sum.elim (fun s : Int32 × zH => .inl (18, [some (zr (some (5, 1))), some (zi s.1)], [], s.2)) (Sum.elim (fun y : zH => .inl (47, [none, none], [], y)) (Sum.elim (fun y : zH => .inl (73, [none, none], [], y)) (fun y : zH => .inl (102, [some (zr (some (5, 1))), none], [], y))))) := by
  unfold f_Parser_readIn_j67
  refine zG_callV (idx := 81) (R := (fun a => (some (zi a.1), a.2))) (as := [zi t0]) (rest := []) (n := 1) (fun a ha => c_Parser_isNewName hl ha) (by decide +kernel) ⟨ok_Parser_isNewName, by decide, by decide +kernel⟩ rfl w_43 w_44 w_45 (by decide) rfl rfl rfl (Nat.le_of_ble_eq_true rfl) fun x4 => ?_
  refine zG_if (op := .ne) (off := 5) (tgt := 75) (by decide +kernel) rfl Iff.rfl (fun c7 => ?_) (fun c7 => ?_)
  · refine zG_run t_Parser [(.aload_n 0, 0, 0), (.getfield 21, 5, 1)] (79, [some (zr (some (5, 1))), some (zi v1)], [zr (x4.2.2.2.1 1 1)], x4.2) (by decide +kernel) rfl ?_
    refine zG_dyn fun w5 _ => ?_
    refine zG_run t_Parser [(.aload_n 0, 0, 0), (.getfield 12, 5, 0), (.getfield 85, 9, 7), (.aload_n 0, 0, 0), (.getfield 12, 5, 0), (.getfield 88, 9, 6)] (93, [some (zr (some (5, 1))), some (zi v1)], [zi (x4.2.1 2 6), zi (x4.2.1 2 7), zr (some (3, w5))], x4.2) (by decide +kernel) rfl ?_
    refine zG_callV (idx := 91) (R := (fun a => (none, a))) (as := [zi (x4.2.1 2 7), zi (x4.2.1 2 6)]) (rest := []) (n := 2) (fun a ha => c_Net_addInput hl ha) (by decide +kernel) ⟨ok_Net_addInput, by decide, by decide +kernel⟩ rfl w_62 w_63 w_64 (by decide) rfl rfl rfl (Nat.le_of_ble_eq_true rfl) fun x6 => ?_
    refine zG_run t_Parser [(.iinc 1 1, 0, 0), (.goto (-81), 0, 0)] (18, [some (zr (some (5, 1))), some (zi (v1 + 1))], [], x6) (by decide +kernel) rfl ?_
    exact zG_end (L' := [some (zr (some (5, 1))), some (zi (v1 + 1))]) rfl (And.intro rfl (And.intro rfl trivial))
  · exact zG_end (L' := [none, none]) rfl (trivial)
set_option maxRecDepth 20000 in
theorem k_Parser_readIn_j49 {l : Launch} {X : zX} (hl : l.stackTraces = false) {h : zH} {v1 : Int32} : zGl l m_Parser_readIn X 0 0 (f_Parser_readIn_j49 h v1) (49, [some (zr (some (5, 1))), some (zi v1)], [], h) (Sum.elim (fun s : Int32 × zH => .inl (18, [some (zr (some (5, 1))), some (zi s.1)], [], s.2)) (Sum.elim (fun y : zH => .inl (47, [none, none], [], y)) (Sum.elim (fun y : zH => .inl (73, [none, none], [], y)) (fun y : zH => .inl (102, [some (zr (some (5, 1))), none], [], y))))) := by
  unfold f_Parser_readIn_j49
  refine zG_run t_Parser [(.aload_n 0, 0, 0), (.aload_n 0, 0, 0), (.getfield 21, 5, 1)] (54, [some (zr (some (5, 1))), some (zi v1)], [zr (h.2.2.1 1 1), zr (some (5, 1))], h) (by decide +kernel) rfl ?_
  refine zG_dyn fun w3 _ => ?_
  refine zG_run t_Parser [(.getfield 78, 3, 0), (.bipush 6, 0, 0)] (59, [some (zr (some (5, 1))), some (zi v1)], [zi 6, zi (h.1 w3 0), zr (some (5, 1))], h) (by decide +kernel) rfl ?_
  refine zG_icmp (op := .ge) (off := 7) (tgt := 66) (by decide +kernel) rfl Iff.rfl (fun c8 => ?_) (fun c8 => ?_)
  · refine zG_run t_Parser [(.iconst 0, 0, 0)] (67, [some (zr (some (5, 1))), some (zi v1)], [zi 0, zr (some (5, 1))], h) (by decide +kernel) rfl ?_
    exact zG_forget (L' := [some (zr (some (5, 1))), some (zi v1)]) (And.intro rfl (And.intro rfl trivial)) (k_Parser_readIn_j67 hl)
  · refine zG_run t_Parser [(.iconst 1, 0, 0), (.goto 4, 0, 0)] (67, [some (zr (some (5, 1))), some (zi v1)], [zi 1, zr (some (5, 1))], h) (by decide +kernel) rfl ?_
    exact zG_forget (L' := [some (zr (some (5, 1))), some (zi v1)]) (And.intro rfl (And.intro rfl trivial)) (k_Parser_readIn_j67 hl)
set_option maxRecDepth 20000 in
theorem k_Parser_readIn_b18 {l : Launch} {X : zX} (hl : l.stackTraces = false) {h : zH} {v1 : Int32} : zGl l m_Parser_readIn X 0 0 (f_Parser_readIn_b18 h v1) (18, [some (zr (some (5, 1))), some (zi v1)], [], h) (Sum.elim (fun s : Int32 × zH => .inl (18, [some (zr (some (5, 1))), some (zi s.1)], [], s.2)) (Sum.elim (fun y : zH => .inl (47, [none, none], [], y)) (Sum.elim (fun y : zH => .inl (73, [none, none], [], y)) (fun y : zH => .inl (102, [some (zr (some (5, 1))), none], [], y))))) := by
  unfold f_Parser_readIn_b18
  refine zG_run t_Parser [(.iload_n 1, 0, 0), (.sipush 900, 0, 0)] (22, [some (zr (some (5, 1))), some (zi v1)], [zi 900, zi v1], h) (by decide +kernel) rfl ?_
  refine zG_icmp (op := .ge) (off := 80) (tgt := 102) (by decide +kernel) rfl Iff.rfl (fun c11 => ?_) (fun c11 => ?_)
  · exact zG_end (L' := [some (zr (some (5, 1))), none]) rfl (And.intro rfl trivial)
  · refine zG_run t_Parser [(.aload_n 0, 0, 0), (.getfield 12, 5, 0)] (29, [some (zr (some (5, 1))), some (zi v1)], [zr (some (9, 2))], h) (by decide +kernel) rfl ?_
    refine zG_callV (idx := 39) (R := (fun a => (none, a))) (as := []) (rest := []) (n := 0) (fun a ha => c_Tape_advance hl ha) (by decide +kernel) ⟨ok_Tape_advance, by decide, by decide +kernel⟩ rfl w_28 w_29 w_30 (by decide) rfl rfl rfl (Nat.le_of_ble_eq_true rfl) fun x2 => ?_
    refine zG_run t_Parser [(.iload_n 1, 0, 0)] (33, [some (zr (some (5, 1))), some (zi v1)], [zi v1], x2) (by decide +kernel) rfl ?_
    refine zG_if (op := .le) (off := 16) (tgt := 49) (by decide +kernel) rfl Iff.rfl (fun c10 => ?_) (fun c10 => ?_)
    · exact zG_forget (L' := [some (zr (some (5, 1))), some (zi v1)]) (And.intro rfl (And.intro rfl trivial)) (k_Parser_readIn_j49 hl)
    · refine zG_run t_Parser [(.aload_n 0, 0, 0), (.getfield 12, 5, 0), (.getfield 42, 9, 4), (.iconst 3, 0, 0)] (44, [some (zr (some (5, 1))), some (zi v1)], [zi 3, zi (x2.1 2 4)], x2) (by decide +kernel) rfl ?_
      refine zG_icmp (op := .ne) (off := 5) (tgt := 49) (by decide +kernel) rfl Iff.rfl (fun c9 => ?_) (fun c9 => ?_)
      · exact zG_forget (L' := [some (zr (some (5, 1))), some (zi v1)]) (And.intro rfl (And.intro rfl trivial)) (k_Parser_readIn_j49 hl)
      · exact zG_end (L' := [none, none]) rfl (trivial)
set_option maxRecDepth 20000 in
theorem k_Parser_readIn {l : Launch} {X : zX} (hl : l.stackTraces = false) {h : zH} : zGl l m_Parser_readIn X 0 0 (f_Parser_readIn h) (0, [some (zr (some (5, 1))), none], [], h) (fun x => .inr ((fun a => (.inl (some (zi a.1)), a.2) : Int32 × zH → zF) x)) := by
  unfold f_Parser_readIn
  refine zG_run t_Parser [(.aload_n 0, 0, 0), (.getfield 21, 5, 1)] (4, [some (zr (some (5, 1))), none], [zr (h.2.2.1 1 1)], h) (by decide +kernel) rfl ?_
  refine zG_dyn fun w1 _ => ?_
  refine zG_run t_Parser [(.getfield 75, 3, 1)] (7, [some (zr (some (5, 1))), none], [zi (h.1 w1 1)], h) (by decide +kernel) rfl ?_
  refine zG_if (op := .le) (off := 9) (tgt := 16) (by decide +kernel) rfl Iff.rfl (fun c20 => ?_) (fun c20 => ?_)
  · refine zG_run t_Parser [(.iconst 0, 0, 0), (.istore_n 1, 0, 0)] (18, [some (zr (some (5, 1))), some (zi 0)], [], h) (by decide +kernel) rfl ?_
    refine zG_forget (L' := [some (zr (some (5, 1))), some (zi 0)]) (And.intro rfl (And.intro rfl trivial)) ?_
    refine zG_bind3 (fun y : zH => (47, [none, none], [], y)) (fun y : zH => (73, [none, none], [], y)) (fun y : zH => (102, [some (zr (some (5, 1))), none], [], y)) (zG_iter (fun s : Int32 × zH => (18, [some (zr (some (5, 1))), some (zi s.1)], [], s.2)) fun s => k_Parser_readIn_b18 hl) (fun y13 => ?_) (fun y14 => ?_) (fun y15 => ?_)
    · refine zG_run t_Parser [(.iconst 1, 0, 0)] (48, [none, none], [zi 1], y13) (by decide +kernel) rfl ?_
      exact zG_ret (r := some (zi 1)) rfl (zrd_z rfl (by decide +kernel) rfl)
    · refine zG_run t_Parser [(.iconst 0, 0, 0)] (74, [none, none], [zi 0], y14) (by decide +kernel) rfl ?_
      exact zG_ret (r := some (zi 0)) rfl (zrd_z rfl (by decide +kernel) rfl)
    · refine zG_run t_Parser [(.aload_n 0, 0, 0), (.iconst 1, 0, 0)] (104, [some (zr (some (5, 1))), none], [zi 1, zr (some (5, 1))], y15) (by decide +kernel) rfl ?_
      refine zG_callV (idx := 71) (R := (fun a => (some (zi a.1), a.2))) (as := [zi 1]) (rest := []) (n := 1) (fun a ha => c_Parser_refuse hl ha) (by decide +kernel) ⟨ok_Parser_refuse, by decide, by decide +kernel⟩ rfl w_40 w_41 w_42 (by decide) rfl rfl rfl (Nat.le_of_ble_eq_true rfl) fun x16 => ?_
      refine zG_guard fun hb17 => ?_
      exact zG_ret (r := some (zi x16.1)) rfl (zrd_z rfl (by decide +kernel) hb17)
  · refine zG_run t_Parser [(.aload_n 0, 0, 0), (.iconst 1, 0, 0)] (12, [some (zr (some (5, 1))), none], [zi 1, zr (some (5, 1))], h) (by decide +kernel) rfl ?_
    refine zG_callV (idx := 71) (R := (fun a => (some (zi a.1), a.2))) (as := [zi 1]) (rest := []) (n := 1) (fun a ha => c_Parser_refuse hl ha) (by decide +kernel) ⟨ok_Parser_refuse, by decide, by decide +kernel⟩ rfl w_40 w_41 w_42 (by decide) rfl rfl rfl (Nat.le_of_ble_eq_true rfl) fun x18 => ?_
    refine zG_guard fun hb19 => ?_
    exact zG_ret (r := some (zi x18.1)) rfl (zrd_z rfl (by decide +kernel) hb19)
theorem c_Parser_readIn {l : Launch} {X : zX} (hl : l.stackTraces = false) {h : zH} {x : Int32 × zH} (hx : f_Parser_readIn h = some x) : zCt l (true, 2) 2 m_Parser_readIn X 0 0 [zr (some (5, 1))] h ((fun a => (.inl (some (zi a.1)), a.2) : Int32 × zH → zF) x) :=
  zG_ct (R := fun a => (.inl (some (zi a.1)), a.2)) (x := x) ok_Parser_readIn hl (Nat.le_of_ble_eq_true rfl) hx (k_Parser_readIn hl)
