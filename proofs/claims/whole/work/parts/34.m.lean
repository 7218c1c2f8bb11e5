/-! methods, by wip/whole/gen.py -/
def m_Main_net : zM := (({ cls := "ScanPacker", name := "net", desc := "(I)I" } : Jvm.MethodName), prog_1_method_3_code, 3, (Option.some Jvm.ClassFile.FieldType.int), [], 8)
theorem ok_Main_net : zMok m_Main_net := ⟨by decide +kernel, zW_of 881 (by decide +kernel) (by decide +kernel), zW_of 122 (by decide +kernel) (by decide +kernel), by decide, by decide +kernel, by decide +kernel⟩
def f_Main_net_j18 (h : zH) : Option ((Int32 × zH) ⊕ (Nat × zH)) :=
  some (.inr (2, h))
def f_Main_net (h : zH) (v1 : Int32) : Option ((Int32 × zH) ⊕ (Nat × zH)) :=
  if v1 < 0 then (
  f_Main_net_j18 h) else (
  if v1 ≤ (h.1 2 1) then (
    (f_Parser_read h v1).bind fun x1 =>
      (some (zsI x1.2 0 2 (x1.2.1 1 3))).bind fun h2 =>
      if x1.1 = 0 then (
      zgr (h2.2.2.1 0 1) 3 fun w3 =>
        (f_Parser_handOver w3 h2).bind fun x4 =>
        (some (zsR x4.2 0 1 (some (3, x4.1)))).bind fun h5 =>
        (f_Main_beginNet h5).bind fun x6 =>
        some (.inl (0, x6))) else (
      (f_Session_refuse 155 h2 0).bind fun x7 =>
        some (.inl (x1.1, x7)))) else (
    f_Main_net_j18 h))
set_option maxRecDepth 20000 in
theorem k_Main_net_j18 {l : Launch} {X : zX} (hl : l.stackTraces = false) {h : zH} : zGl l m_Main_net X 1 6 (f_Main_net_j18 h) (18, [none, none, none], [], h) (fun x => .inr ((Sum.elim (fun a => (.inl (some (zi a.1)), a.2)) (fun q => (.inr q.1, q.2)) : (Int32 × zH) ⊕ (Nat × zH) → zF) x)) := by
  unfold f_Main_net_j18
  refine zG_mono (bc' := 0 + 1) (bs' := 0 + 6) (by decide) (by decide) ?_
  exact zG_throw (k := 2) (ik := 92) (ic := 94) rfl (Or.inr rfl) (by decide +kernel) (by decide +kernel) (by decide +kernel) (by decide +kernel) w_3 w_4 (by decide +kernel) (by decide +kernel) (Nat.le_of_ble_eq_true rfl) (by decide) rfl
set_option maxRecDepth 20000 in
theorem k_Main_net {l : Launch} {X : zX} (hl : l.stackTraces = false) {h : zH} {v1 : Int32} : zGl l m_Main_net X 1 6 (f_Main_net h v1) (0, [some (zr (some (0, 0))), some (zi v1), none], [], h) (fun x => .inr ((Sum.elim (fun a => (.inl (some (zi a.1)), a.2)) (fun q => (.inr q.1, q.2)) : (Int32 × zH) ⊕ (Nat × zH) → zF) x)) := by
  unfold f_Main_net
  refine zG_run t_Main [(.iload_n 1, 0, 0)] (1, [some (zr (some (0, 0))), some (zi v1), none], [zi v1], h) (by decide +kernel) rfl ?_
  refine zG_if (op := .lt) (off := 17) (tgt := 18) (by decide +kernel) rfl Iff.rfl (fun c10 => ?_) (fun c10 => ?_)
  · refine zG_mono (bc' := 1) (bs' := 6) (by decide) (by decide) ?_
    exact zG_forget (L' := [none, none, none]) (trivial) (k_Main_net_j18 hl)
  · refine zG_run t_Main [(.iload_n 1, 0, 0), (.aload_n 0, 0, 0), (.getfield 12, 0, 0), (.getfield 79, 5, 0), (.getfield 83, 9, 1)] (15, [some (zr (some (0, 0))), some (zi v1), none], [zi (h.1 2 1), zi v1], h) (by decide +kernel) rfl ?_
    refine zG_icmp (op := .le) (off := 11) (tgt := 26) (by decide +kernel) rfl Iff.rfl (fun c9 => ?_) (fun c9 => ?_)
    · refine zG_run t_Main [(.aload_n 0, 0, 0), (.getfield 12, 0, 0), (.iload_n 1, 0, 0)] (31, [some (zr (some (0, 0))), some (zi v1), none], [zi v1, zr (some (5, 1))], h) (by decide +kernel) rfl ?_
      refine zG_callV (idx := 95) (R := (fun a => (some (zi a.1), a.2))) (as := [zi v1]) (rest := []) (n := 1) (fun a ha => c_Parser_read hl ha) (by decide +kernel) ⟨ok_Parser_read, by decide, by decide +kernel⟩ rfl w_96 w_97 w_98 (by decide) rfl rfl rfl (Nat.le_of_ble_eq_true rfl) fun x1 => ?_
      refine zG_bind (fun y => (46, [some (zr (some (0, 0))), some (zi v1), some (zi x1.1)], [], y)) (zG_run t_Main [(.istore_n 2, 0, 0), (.aload_n 0, 0, 0), (.aload_n 0, 0, 0), (.getfield 12, 0, 0), (.getfield 99, 5, 3), (.putfield 23, 0, 2)] (46, [some (zr (some (0, 0))), some (zi v1), some (zi x1.1)], [], zsI x1.2 0 2 (x1.2.1 1 3)) (by decide +kernel) rfl (zG_end (L' := [some (zr (some (0, 0))), some (zi v1), some (zi x1.1)]) rfl (And.intro rfl (And.intro rfl (And.intro rfl trivial))))) fun h2 => ?_
      refine zG_run t_Main [(.iload_n 2, 0, 0)] (47, [some (zr (some (0, 0))), some (zi v1), some (zi x1.1)], [zi x1.1], h2) (by decide +kernel) rfl ?_
      refine zG_if (op := .eq) (off := 13) (tgt := 60) (by decide +kernel) rfl Iff.rfl (fun c8 => ?_) (fun c8 => ?_)
      · refine zG_run t_Main [(.aload_n 0, 0, 0), (.aload_n 0, 0, 0), (.getfield 12, 0, 0), (.aload_n 0, 0, 0), (.getfield 19, 0, 1)] (69, [some (zr (some (0, 0))), some (zi v1), some (zi x1.1)], [zr (h2.2.2.1 0 1), zr (some (5, 1)), zr (some (0, 0))], h2) (by decide +kernel) rfl ?_
        refine zG_dyn fun w3 _ => ?_
        refine zG_callV (idx := 105) (R := (fun a => (some (zr (some (3, a.1))), a.2))) (as := [zr (some (3, w3))]) (rest := [zr (some (0, 0))]) (n := 1) (fun a ha => c_Parser_handOver hl ha) (by decide +kernel) ⟨ok_Parser_handOver, by decide, by decide +kernel⟩ rfl w_99 w_100 w_101 (by decide) rfl rfl rfl (Nat.le_of_ble_eq_true rfl) fun x4 => ?_
        refine zG_bind (fun y => (75, [some (zr (some (0, 0))), some (zi v1), some (zi x1.1)], [], y)) (zG_run t_Main [(.putfield 19, 0, 1)] (75, [some (zr (some (0, 0))), some (zi v1), some (zi x1.1)], [], zsR x4.2 0 1 (some (3, x4.1))) (by decide +kernel) rfl (zG_end (L' := [some (zr (some (0, 0))), some (zi v1), some (zi x1.1)]) rfl (And.intro rfl (And.intro rfl (And.intro rfl trivial))))) fun h5 => ?_
        refine zG_run t_Main [(.aload_n 0, 0, 0)] (76, [some (zr (some (0, 0))), some (zi v1), some (zi x1.1)], [zr (some (0, 0))], h5) (by decide +kernel) rfl ?_
        refine zG_callV (idx := 76) (R := (fun a => (none, a))) (as := []) (rest := []) (n := 0) (fun a ha => c_Main_beginNet hl ha) (by decide +kernel) ⟨ok_Main_beginNet, by decide, by decide +kernel⟩ rfl w_170 w_171 w_172 (by decide) rfl rfl rfl (Nat.le_of_ble_eq_true rfl) fun x6 => ?_
        refine zG_run t_Main [(.iconst 0, 0, 0)] (80, [some (zr (some (0, 0))), some (zi v1), some (zi x1.1)], [zi 0], x6) (by decide +kernel) rfl ?_
        exact zG_ret (r := some (zi 0)) rfl (zrd_i rfl (by decide +kernel))
      · refine zG_run t_Main [(.aload_n 0, 0, 0), (.getfield 58, 0, 7), (.iconst 0, 0, 0)] (55, [some (zr (some (0, 0))), some (zi v1), some (zi x1.1)], [zi 0, zr (some (7, 155))], h2) (by decide +kernel) rfl ?_
        refine zG_callV (idx := 102) (R := (fun a => (none, a))) (as := [zi 0]) (rest := []) (n := 1) (fun a ha => c_Session_refuse hl ha) (by decide +kernel) ⟨ok_Session_refuse, by decide, by decide +kernel⟩ rfl w_173 w_174 w_175 (by decide) rfl rfl rfl (Nat.le_of_ble_eq_true rfl) fun x7 => ?_
        refine zG_run t_Main [(.iload_n 2, 0, 0)] (59, [some (zr (some (0, 0))), some (zi v1), some (zi x1.1)], [zi x1.1], x7) (by decide +kernel) rfl ?_
        exact zG_ret (r := some (zi x1.1)) rfl (zrd_i rfl (by decide +kernel))
    · refine zG_mono (bc' := 1) (bs' := 6) (by decide) (by decide) ?_
      exact zG_forget (L' := [none, none, none]) (trivial) (k_Main_net_j18 hl)
theorem c_Main_net {l : Launch} {X : zX} (hl : l.stackTraces = false) {h : zH} {v1 : Int32} {x : (Int32 × zH) ⊕ (Nat × zH)} (hx : f_Main_net h v1 = some x) : zCt l (true, 2) 2 m_Main_net X 1 6 [zr (some (0, 0)), zi v1] h ((Sum.elim (fun a => (.inl (some (zi a.1)), a.2)) (fun q => (.inr q.1, q.2)) : (Int32 × zH) ⊕ (Nat × zH) → zF) x) :=
  zG_ct (R := Sum.elim (fun a => (.inl (some (zi a.1)), a.2)) (fun q => (.inr q.1, q.2))) (x := x) ok_Main_net hl (Nat.le_of_ble_eq_true rfl) hx (k_Main_net hl)
def m_Main_fault : zM := (({ cls := "ScanPacker", name := "fault", desc := "()I" } : Jvm.MethodName), prog_1_method_4_code, 1, (Option.some Jvm.ClassFile.FieldType.int), [], 1)
theorem ok_Main_fault : zMok m_Main_fault := ⟨by decide +kernel, zW_of 713 (by decide +kernel) (by decide +kernel), zW_of 122 (by decide +kernel) (by decide +kernel), by decide, by decide +kernel, by decide +kernel⟩
def f_Main_fault (h : zH) : Option (Int32) :=
  some (h.1 0 2)
set_option maxRecDepth 20000 in
theorem k_Main_fault {l : Launch} {X : zX} (hl : l.stackTraces = false) {h : zH} : zGl l m_Main_fault X 0 0 (f_Main_fault h) (0, [some (zr (some (0, 0)))], [], h) (fun x => .inr ((fun a => (.inl (some (zi a)), h) : Int32 → zF) x)) := by
  unfold f_Main_fault
  refine zG_run t_Main [(.aload_n 0, 0, 0), (.getfield 23, 0, 2)] (4, [some (zr (some (0, 0)))], [zi (h.1 0 2)], h) (by decide +kernel) rfl ?_
  exact zG_ret (r := some (zi (h.1 0 2))) rfl (zrd_i rfl (by decide +kernel))
theorem c_Main_fault {l : Launch} {X : zX} (hl : l.stackTraces = false) {h : zH} {x : Int32} (hx : f_Main_fault h = some x) : zCt l (true, 2) 2 m_Main_fault X 0 0 [zr (some (0, 0))] h ((fun a => (.inl (some (zi a)), h) : Int32 → zF) x) :=
  zG_ct (R := fun a => (.inl (some (zi a)), h)) (x := x) ok_Main_fault hl (Nat.le_of_ble_eq_true rfl) hx (k_Main_fault hl)
def m_Long_bitCount : zM := (({ cls := "java/lang/Long", name := "bitCount", desc := "(J)I" } : Jvm.MethodName), prog_20_method_50_code, 2, (Option.some Jvm.ClassFile.FieldType.int), [], 1)
theorem ok_Long_bitCount : zMok m_Long_bitCount := ⟨by decide +kernel, zW_of 806 (by decide +kernel) (by decide +kernel), zW_of 145 (by decide +kernel) (by decide +kernel), by decide, by decide +kernel, by decide +kernel⟩
def f_Long_bitCount (v0 : Int64) : Option (Int32) :=
  some (((((((((v0 - ((zlushr v0 1) &&& 6148914691236517205)) &&& 3689348814741910323) + ((zlushr (v0 - ((zlushr v0 1) &&& 6148914691236517205)) 2) &&& 3689348814741910323)) + (zlushr (((v0 - ((zlushr v0 1) &&& 6148914691236517205)) &&& 3689348814741910323) + ((zlushr (v0 - ((zlushr v0 1) &&& 6148914691236517205)) 2) &&& 3689348814741910323)) 4)) &&& 1085102592571150095) + (zlushr (((((v0 - ((zlushr v0 1) &&& 6148914691236517205)) &&& 3689348814741910323) + ((zlushr (v0 - ((zlushr v0 1) &&& 6148914691236517205)) 2) &&& 3689348814741910323)) + (zlushr (((v0 - ((zlushr v0 1) &&& 6148914691236517205)) &&& 3689348814741910323) + ((zlushr (v0 - ((zlushr v0 1) &&& 6148914691236517205)) 2) &&& 3689348814741910323)) 4)) &&& 1085102592571150095) 8)) + (zlushr ((((((v0 - ((zlushr v0 1) &&& 6148914691236517205)) &&& 3689348814741910323) + ((zlushr (v0 - ((zlushr v0 1) &&& 6148914691236517205)) 2) &&& 3689348814741910323)) + (zlushr (((v0 - ((zlushr v0 1) &&& 6148914691236517205)) &&& 3689348814741910323) + ((zlushr (v0 - ((zlushr v0 1) &&& 6148914691236517205)) 2) &&& 3689348814741910323)) 4)) &&& 1085102592571150095) + (zlushr (((((v0 - ((zlushr v0 1) &&& 6148914691236517205)) &&& 3689348814741910323) + ((zlushr (v0 - ((zlushr v0 1) &&& 6148914691236517205)) 2) &&& 3689348814741910323)) + (zlushr (((v0 - ((zlushr v0 1) &&& 6148914691236517205)) &&& 3689348814741910323) + ((zlushr (v0 - ((zlushr v0 1) &&& 6148914691236517205)) 2) &&& 3689348814741910323)) 4)) &&& 1085102592571150095) 8)) 16)) + (zlushr (((((((v0 - ((zlushr v0 1) &&& 6148914691236517205)) &&& 3689348814741910323) + ((zlushr (v0 - ((zlushr v0 1) &&& 6148914691236517205)) 2) &&& 3689348814741910323)) + (zlushr (((v0 - ((zlushr v0 1) &&& 6148914691236517205)) &&& 3689348814741910323) + ((zlushr (v0 - ((zlushr v0 1) &&& 6148914691236517205)) 2) &&& 3689348814741910323)) 4)) &&& 1085102592571150095) + (zlushr (((((v0 - ((zlushr v0 1) &&& 6148914691236517205)) &&& 3689348814741910323) + ((zlushr (v0 - ((zlushr v0 1) &&& 6148914691236517205)) 2) &&& 3689348814741910323)) + (zlushr (((v0 - ((zlushr v0 1) &&& 6148914691236517205)) &&& 3689348814741910323) + ((zlushr (v0 - ((zlushr v0 1) &&& 6148914691236517205)) 2) &&& 3689348814741910323)) 4)) &&& 1085102592571150095) 8)) + (zlushr ((((((v0 - ((zlushr v0 1) &&& 6148914691236517205)) &&& 3689348814741910323) + ((zlushr (v0 - ((zlushr v0 1) &&& 6148914691236517205)) 2) &&& 3689348814741910323)) + (zlushr (((v0 - ((zlushr v0 1) &&& 6148914691236517205)) &&& 3689348814741910323) + ((zlushr (v0 - ((zlushr v0 1) &&& 6148914691236517205)) 2) &&& 3689348814741910323)) 4)) &&& 1085102592571150095) + (zlushr (((((v0 - ((zlushr v0 1) &&& 6148914691236517205)) &&& 3689348814741910323) + ((zlushr (v0 - ((zlushr v0 1) &&& 6148914691236517205)) 2) &&& 3689348814741910323)) + (zlushr (((v0 - ((zlushr v0 1) &&& 6148914691236517205)) &&& 3689348814741910323) + ((zlushr (v0 - ((zlushr v0 1) &&& 6148914691236517205)) 2) &&& 3689348814741910323)) 4)) &&& 1085102592571150095) 8)) 16)) 32)).toInt32 &&& 127)
set_option maxRecDepth 20000 in
theorem k_Long_bitCount {l : Launch} {X : zX} (hl : l.stackTraces = false) {h : zH} {v0 : Int64} : zGl l m_Long_bitCount X 0 0 (f_Long_bitCount v0) (0, [some (zl v0), none], [], h) (fun x => .inr ((fun a => (.inl (some (zi a)), h) : Int32 → zF) x)) := by
  unfold f_Long_bitCount
  refine zG_run t_Long [(.lload_n 0, 0, 0), (.lload_n 0, 0, 0), (.iconst 1, 0, 0), (.lushr, 0, 0)] (4, [some (zl v0), none], [zl (zlushr v0 1), zl v0], h) (by decide +kernel) rfl ?_
  refine zG_ldc2 (v := 6148914691236517205) (by decide +kernel) w_178 ?_
  refine zG_run t_Long [(.land, 0, 0), (.lsub, 0, 0), (.lstore_n 0, 0, 0), (.lload_n 0, 0, 0)] (11, [some (zl (v0 - ((zlushr v0 1) &&& 6148914691236517205))), none], [zl (v0 - ((zlushr v0 1) &&& 6148914691236517205))], h) (by decide +kernel) rfl ?_
  refine zG_ldc2 (v := 3689348814741910323) (by decide +kernel) w_179 ?_
  refine zG_run t_Long [(.land, 0, 0), (.lload_n 0, 0, 0), (.iconst 2, 0, 0), (.lushr, 0, 0)] (18, [some (zl (v0 - ((zlushr v0 1) &&& 6148914691236517205))), none], [zl (zlushr (v0 - ((zlushr v0 1) &&& 6148914691236517205)) 2), zl ((v0 - ((zlushr v0 1) &&& 6148914691236517205)) &&& 3689348814741910323)], h) (by decide +kernel) rfl ?_
  refine zG_ldc2 (v := 3689348814741910323) (by decide +kernel) w_179 ?_
  refine zG_run t_Long [(.land, 0, 0), (.ladd, 0, 0), (.lstore_n 0, 0, 0), (.lload_n 0, 0, 0), (.lload_n 0, 0, 0), (.iconst 4, 0, 0), (.lushr, 0, 0), (.ladd, 0, 0)] (29, [some (zl (((v0 - ((zlushr v0 1) &&& 6148914691236517205)) &&& 3689348814741910323) + ((zlushr (v0 - ((zlushr v0 1) &&& 6148914691236517205)) 2) &&& 3689348814741910323))), none], [zl ((((v0 - ((zlushr v0 1) &&& 6148914691236517205)) &&& 3689348814741910323) + ((zlushr (v0 - ((zlushr v0 1) &&& 6148914691236517205)) 2) &&& 3689348814741910323)) + (zlushr (((v0 - ((zlushr v0 1) &&& 6148914691236517205)) &&& 3689348814741910323) + ((zlushr (v0 - ((zlushr v0 1) &&& 6148914691236517205)) 2) &&& 3689348814741910323)) 4))], h) (by decide +kernel) rfl ?_
  refine zG_ldc2 (v := 1085102592571150095) (by decide +kernel) w_180 ?_
  refine zG_run t_Long [(.land, 0, 0), (.lstore_n 0, 0, 0), (.lload_n 0, 0, 0), (.lload_n 0, 0, 0), (.bipush 8, 0, 0), (.lushr, 0, 0), (.ladd, 0, 0), (.lstore_n 0, 0, 0), (.lload_n 0, 0, 0), (.lload_n 0, 0, 0), (.bipush 16, 0, 0), (.lushr, 0, 0), (.ladd, 0, 0), (.lstore_n 0, 0, 0), (.lload_n 0, 0, 0), (.lload_n 0, 0, 0), (.bipush 32, 0, 0), (.lushr, 0, 0), (.ladd, 0, 0), (.lstore_n 0, 0, 0), (.lload_n 0, 0, 0), (.l2i, 0, 0), (.bipush 127, 0, 0), (.iand, 0, 0)] (60, [some (zl ((((((((v0 - ((zlushr v0 1) &&& 6148914691236517205)) &&& 3689348814741910323) + ((zlushr (v0 - ((zlushr v0 1) &&& 6148914691236517205)) 2) &&& 3689348814741910323)) + (zlushr (((v0 - ((zlushr v0 1) &&& 6148914691236517205)) &&& 3689348814741910323) + ((zlushr (v0 - ((zlushr v0 1) &&& 6148914691236517205)) 2) &&& 3689348814741910323)) 4)) &&& 1085102592571150095) + (zlushr (((((v0 - ((zlushr v0 1) &&& 6148914691236517205)) &&& 3689348814741910323) + ((zlushr (v0 - ((zlushr v0 1) &&& 6148914691236517205)) 2) &&& 3689348814741910323)) + (zlushr (((v0 - ((zlushr v0 1) &&& 6148914691236517205)) &&& 3689348814741910323) + ((zlushr (v0 - ((zlushr v0 1) &&& 6148914691236517205)) 2) &&& 3689348814741910323)) 4)) &&& 1085102592571150095) 8)) + (zlushr ((((((v0 - ((zlushr v0 1) &&& 6148914691236517205)) &&& 3689348814741910323) + ((zlushr (v0 - ((zlushr v0 1) &&& 6148914691236517205)) 2) &&& 3689348814741910323)) + (zlushr (((v0 - ((zlushr v0 1) &&& 6148914691236517205)) &&& 3689348814741910323) + ((zlushr (v0 - ((zlushr v0 1) &&& 6148914691236517205)) 2) &&& 3689348814741910323)) 4)) &&& 1085102592571150095) + (zlushr (((((v0 - ((zlushr v0 1) &&& 6148914691236517205)) &&& 3689348814741910323) + ((zlushr (v0 - ((zlushr v0 1) &&& 6148914691236517205)) 2) &&& 3689348814741910323)) + (zlushr (((v0 - ((zlushr v0 1) &&& 6148914691236517205)) &&& 3689348814741910323) + ((zlushr (v0 - ((zlushr v0 1) &&& 6148914691236517205)) 2) &&& 3689348814741910323)) 4)) &&& 1085102592571150095) 8)) 16)) + (zlushr (((((((v0 - ((zlushr v0 1) &&& 6148914691236517205)) &&& 3689348814741910323) + ((zlushr (v0 - ((zlushr v0 1) &&& 6148914691236517205)) 2) &&& 3689348814741910323)) + (zlushr (((v0 - ((zlushr v0 1) &&& 6148914691236517205)) &&& 3689348814741910323) + ((zlushr (v0 - ((zlushr v0 1) &&& 6148914691236517205)) 2) &&& 3689348814741910323)) 4)) &&& 1085102592571150095) + (zlushr (((((v0 - ((zlushr v0 1) &&& 6148914691236517205)) &&& 3689348814741910323) + ((zlushr (v0 - ((zlushr v0 1) &&& 6148914691236517205)) 2) &&& 3689348814741910323)) + (zlushr (((v0 - ((zlushr v0 1) &&& 6148914691236517205)) &&& 3689348814741910323) + ((zlushr (v0 - ((zlushr v0 1) &&& 6148914691236517205)) 2) &&& 3689348814741910323)) 4)) &&& 1085102592571150095) 8)) + (zlushr ((((((v0 - ((zlushr v0 1) &&& 6148914691236517205)) &&& 3689348814741910323) + ((zlushr (v0 - ((zlushr v0 1) &&& 6148914691236517205)) 2) &&& 3689348814741910323)) + (zlushr (((v0 - ((zlushr v0 1) &&& 6148914691236517205)) &&& 3689348814741910323) + ((zlushr (v0 - ((zlushr v0 1) &&& 6148914691236517205)) 2) &&& 3689348814741910323)) 4)) &&& 1085102592571150095) + (zlushr (((((v0 - ((zlushr v0 1) &&& 6148914691236517205)) &&& 3689348814741910323) + ((zlushr (v0 - ((zlushr v0 1) &&& 6148914691236517205)) 2) &&& 3689348814741910323)) + (zlushr (((v0 - ((zlushr v0 1) &&& 6148914691236517205)) &&& 3689348814741910323) + ((zlushr (v0 - ((zlushr v0 1) &&& 6148914691236517205)) 2) &&& 3689348814741910323)) 4)) &&& 1085102592571150095) 8)) 16)) 32))), none], [zi (((((((((v0 - ((zlushr v0 1) &&& 6148914691236517205)) &&& 3689348814741910323) + ((zlushr (v0 - ((zlushr v0 1) &&& 6148914691236517205)) 2) &&& 3689348814741910323)) + (zlushr (((v0 - ((zlushr v0 1) &&& 6148914691236517205)) &&& 3689348814741910323) + ((zlushr (v0 - ((zlushr v0 1) &&& 6148914691236517205)) 2) &&& 3689348814741910323)) 4)) &&& 1085102592571150095) + (zlushr (((((v0 - ((zlushr v0 1) &&& 6148914691236517205)) &&& 3689348814741910323) + ((zlushr (v0 - ((zlushr v0 1) &&& 6148914691236517205)) 2) &&& 3689348814741910323)) + (zlushr (((v0 - ((zlushr v0 1) &&& 6148914691236517205)) &&& 3689348814741910323) + ((zlushr (v0 - ((zlushr v0 1) &&& 6148914691236517205)) 2) &&& 3689348814741910323)) 4)) &&& 1085102592571150095) 8)) + (zlushr ((((((v0 - ((zlushr v0 1) &&& 6148914691236517205)) &&& 3689348814741910323) + ((zlushr (v0 - ((zlushr v0 1) &&& 6148914691236517205)) 2) &&& 3689348814741910323)) + (zlushr (((v0 - ((zlushr v0 1) &&& 6148914691236517205)) &&& 3689348814741910323) + ((zlushr (v0 - ((zlushr v0 1) &&& 6148914691236517205)) 2) &&& 3689348814741910323)) 4)) &&& 1085102592571150095) + (zlushr (((((v0 - ((zlushr v0 1) &&& 6148914691236517205)) &&& 3689348814741910323) + ((zlushr (v0 - ((zlushr v0 1) &&& 6148914691236517205)) 2) &&& 3689348814741910323)) + (zlushr (((v0 - ((zlushr v0 1) &&& 6148914691236517205)) &&& 3689348814741910323) + ((zlushr (v0 - ((zlushr v0 1) &&& 6148914691236517205)) 2) &&& 3689348814741910323)) 4)) &&& 1085102592571150095) 8)) 16)) + (zlushr (((((((v0 - ((zlushr v0 1) &&& 6148914691236517205)) &&& 3689348814741910323) + ((zlushr (v0 - ((zlushr v0 1) &&& 6148914691236517205)) 2) &&& 3689348814741910323)) + (zlushr (((v0 - ((zlushr v0 1) &&& 6148914691236517205)) &&& 3689348814741910323) + ((zlushr (v0 - ((zlushr v0 1) &&& 6148914691236517205)) 2) &&& 3689348814741910323)) 4)) &&& 1085102592571150095) + (zlushr (((((v0 - ((zlushr v0 1) &&& 6148914691236517205)) &&& 3689348814741910323) + ((zlushr (v0 - ((zlushr v0 1) &&& 6148914691236517205)) 2) &&& 3689348814741910323)) + (zlushr (((v0 - ((zlushr v0 1) &&& 6148914691236517205)) &&& 3689348814741910323) + ((zlushr (v0 - ((zlushr v0 1) &&& 6148914691236517205)) 2) &&& 3689348814741910323)) 4)) &&& 1085102592571150095) 8)) + (zlushr ((((((v0 - ((zlushr v0 1) &&& 6148914691236517205)) &&& 3689348814741910323) + ((zlushr (v0 - ((zlushr v0 1) &&& 6148914691236517205)) 2) &&& 3689348814741910323)) + (zlushr (((v0 - ((zlushr v0 1) &&& 6148914691236517205)) &&& 3689348814741910323) + ((zlushr (v0 - ((zlushr v0 1) &&& 6148914691236517205)) 2) &&& 3689348814741910323)) 4)) &&& 1085102592571150095) + (zlushr (((((v0 - ((zlushr v0 1) &&& 6148914691236517205)) &&& 3689348814741910323) + ((zlushr (v0 - ((zlushr v0 1) &&& 6148914691236517205)) 2) &&& 3689348814741910323)) + (zlushr (((v0 - ((zlushr v0 1) &&& 6148914691236517205)) &&& 3689348814741910323) + ((zlushr (v0 - ((zlushr v0 1) &&& 6148914691236517205)) 2) &&& 3689348814741910323)) 4)) &&& 1085102592571150095) 8)) 16)) 32)).toInt32 &&& 127)], h) (by decide +kernel) rfl ?_
  exact zG_ret (r := some (zi (((((((((v0 - ((zlushr v0 1) &&& 6148914691236517205)) &&& 3689348814741910323) + ((zlushr (v0 - ((zlushr v0 1) &&& 6148914691236517205)) 2) &&& 3689348814741910323)) + (zlushr (((v0 - ((zlushr v0 1) &&& 6148914691236517205)) &&& 3689348814741910323) + ((zlushr (v0 - ((zlushr v0 1) &&& 6148914691236517205)) 2) &&& 3689348814741910323)) 4)) &&& 1085102592571150095) + (zlushr (((((v0 - ((zlushr v0 1) &&& 6148914691236517205)) &&& 3689348814741910323) + ((zlushr (v0 - ((zlushr v0 1) &&& 6148914691236517205)) 2) &&& 3689348814741910323)) + (zlushr (((v0 - ((zlushr v0 1) &&& 6148914691236517205)) &&& 3689348814741910323) + ((zlushr (v0 - ((zlushr v0 1) &&& 6148914691236517205)) 2) &&& 3689348814741910323)) 4)) &&& 1085102592571150095) 8)) + (zlushr ((((((v0 - ((zlushr v0 1) &&& 6148914691236517205)) &&& 3689348814741910323) + ((zlushr (v0 - ((zlushr v0 1) &&& 6148914691236517205)) 2) &&& 3689348814741910323)) + (zlushr (((v0 - ((zlushr v0 1) &&& 6148914691236517205)) &&& 3689348814741910323) + ((zlushr (v0 - ((zlushr v0 1) &&& 6148914691236517205)) 2) &&& 3689348814741910323)) 4)) &&& 1085102592571150095) + (zlushr (((((v0 - ((zlushr v0 1) &&& 6148914691236517205)) &&& 3689348814741910323) + ((zlushr (v0 - ((zlushr v0 1) &&& 6148914691236517205)) 2) &&& 3689348814741910323)) + (zlushr (((v0 - ((zlushr v0 1) &&& 6148914691236517205)) &&& 3689348814741910323) + ((zlushr (v0 - ((zlushr v0 1) &&& 6148914691236517205)) 2) &&& 3689348814741910323)) 4)) &&& 1085102592571150095) 8)) 16)) + (zlushr (((((((v0 - ((zlushr v0 1) &&& 6148914691236517205)) &&& 3689348814741910323) + ((zlushr (v0 - ((zlushr v0 1) &&& 6148914691236517205)) 2) &&& 3689348814741910323)) + (zlushr (((v0 - ((zlushr v0 1) &&& 6148914691236517205)) &&& 3689348814741910323) + ((zlushr (v0 - ((zlushr v0 1) &&& 6148914691236517205)) 2) &&& 3689348814741910323)) 4)) &&& 1085102592571150095) + (zlushr (((((v0 - ((zlushr v0 1) &&& 6148914691236517205)) &&& 3689348814741910323) + ((zlushr (v0 - ((zlushr v0 1) &&& 6148914691236517205)) 2) &&& 3689348814741910323)) + (zlushr (((v0 - ((zlushr v0 1) &&& 6148914691236517205)) &&& 3689348814741910323) + ((zlushr (v0 - ((zlushr v0 1) &&& 6148914691236517205)) 2) &&& 3689348814741910323)) 4)) &&& 1085102592571150095) 8)) + (zlushr ((((((v0 - ((zlushr v0 1) &&& 6148914691236517205)) &&& 3689348814741910323) + ((zlushr (v0 - ((zlushr v0 1) &&& 6148914691236517205)) 2) &&& 3689348814741910323)) + (zlushr (((v0 - ((zlushr v0 1) &&& 6148914691236517205)) &&& 3689348814741910323) + ((zlushr (v0 - ((zlushr v0 1) &&& 6148914691236517205)) 2) &&& 3689348814741910323)) 4)) &&& 1085102592571150095) + (zlushr (((((v0 - ((zlushr v0 1) &&& 6148914691236517205)) &&& 3689348814741910323) + ((zlushr (v0 - ((zlushr v0 1) &&& 6148914691236517205)) 2) &&& 3689348814741910323)) + (zlushr (((v0 - ((zlushr v0 1) &&& 6148914691236517205)) &&& 3689348814741910323) + ((zlushr (v0 - ((zlushr v0 1) &&& 6148914691236517205)) 2) &&& 3689348814741910323)) 4)) &&& 1085102592571150095) 8)) 16)) 32)).toInt32 &&& 127))) rfl (zrd_i rfl (by decide +kernel))
theorem c_Long_bitCount {l : Launch} {X : zX} (hl : l.stackTraces = false) {h : zH} {v0 : Int64} {x : Int32} (hx : f_Long_bitCount v0 = some x) : zCt l (true, 2) 2 m_Long_bitCount X 0 0 [zl v0] h ((fun a => (.inl (some (zi a)), h) : Int32 → zF) x) :=
  zG_ct (R := fun a => (.inl (some (zi a)), h)) (x := x) ok_Long_bitCount hl (Nat.le_of_ble_eq_true rfl) hx (k_Long_bitCount hl)
def m_Program_mergeCubes : zM := (({ cls := "ScanPacker$Program", name := "mergeCubes", desc := "(LScanPacker$Catalog;J)I" } : Jvm.MethodName), prog_7_method_3_code, 8, (Option.some Jvm.ClassFile.FieldType.int), [], 1)
theorem ok_Program_mergeCubes : zMok m_Program_mergeCubes := ⟨by decide +kernel, zW_of 1123 (by decide +kernel) (by decide +kernel), zW_of 128 (by decide +kernel) (by decide +kernel), by decide, by decide +kernel, by decide +kernel⟩
def f_Program_mergeCubes_j62 (h : zH) (v2 : Int64) (v4 : Int32) (v5 : Int32) (t0 : Int32) : Option ((Int32 × Int32 × zH) ⊕ (Int32 × zH)) :=
  if ¬ ((zlushr v2 v5) &&& 1) = 1 then (
  some (.inl (v4, (v5 + 1), h))) else (
  if t0 = 0 then (
    some (.inl (v4, (v5 + 1), h))) else (
    zg (zb v5 44) <|
      (some (zsI h 137 7 ((h.1 137 7) ||| (h.1 122 v5.toNatClampNeg)))).bind fun h6 =>
      zg (zb v5 44) <|
      (some (zsI h6 137 8 ((h6.1 137 8) ||| (h6.1 123 v5.toNatClampNeg)))).bind fun h8 =>
      some (.inl ((v4 + 1), (v5 + 1), h8))))
def f_Program_mergeCubes_b16 (h : zH) (v2 : Int64) (v4 : Int32) (v5 : Int32) : Option ((Int32 × Int32 × zH) ⊕ (Int32 × zH)) :=
  if (h.1 74 0) ≤ v5 then (
  some (.inr (v4, h))) else (
  zg (zb v5 44) <|
    zg (zb v5 44) <|
    if ¬ (((h.1 137 8) ^^^ (h.1 123 v5.toNatClampNeg)) &&& ((h.1 137 7) &&& (h.1 122 v5.toNatClampNeg))) = 0 then (
    f_Program_mergeCubes_j62 h v2 v4 v5 0) else (
    f_Program_mergeCubes_j62 h v2 v4 v5 1))
def f_Program_mergeCubes (h : zH) (v2 : Int64) : Option (Int32 × zH) :=
  (some (zsI h 137 7 0)).bind fun h1 =>
  (some (zsI h1 137 8 0)).bind fun h2 =>
  (zit zFU (fun s : Int32 × Int32 × zH => f_Program_mergeCubes_b16 s.2.2 v2 s.1 s.2.1) (0, 0, h2)).bind (fun y14 =>
  some (y14.1, y14.2))
set_option maxRecDepth 20000 in
theorem k_Program_mergeCubes_j62 {l : Launch} {X : zX} (hl : l.stackTraces = false) {h : zH} {v2 : Int64} {v4 : Int32} {v5 : Int32} {t0 : Int32} : zGl l m_Program_mergeCubes X 0 0 (f_Program_mergeCubes_j62 h v2 v4 v5 t0) (62, [some (zr (some (6, 137))), some (zr (some (1, 74))), some (zl v2), none, some (zi v4), some (zi v5), none, none], [zi t0], h) (Sum.elim (fun s : Int32 × Int32 × zH => .inl (16, [some (zr (some (6, 137))), some (zr (some (1, 74))), some (zl v2), none, some (zi s.1), some (zi s.2.1), none, none], [], s.2.2)) (fun y : Int32 × zH => .inl (121, [none, none, none, none, some (zi y.1), none, none, none], [], y.2))) := by
  unfold f_Program_mergeCubes_j62
  refine zG_run t_Program [(.istore 7, 0, 0), (.lload_n 2, 0, 0), (.iload 5, 0, 0), (.lushr, 0, 0), (.lconst 1, 0, 0), (.land, 0, 0), (.lconst 1, 0, 0), (.lcmp, 0, 0)] (72, [some (zr (some (6, 137))), some (zr (some (1, 74))), some (zl v2), none, some (zi v4), some (zi v5), none, some (zi t0)], [zi (lg_cmp ((zlushr v2 v5) &&& 1) 1)], h) (by decide +kernel) rfl ?_
  refine zG_if (op := .ne) (off := 43) (tgt := 115) (by decide +kernel) rfl (not_congr zcmp0) (fun c10 => ?_) (fun c10 => ?_)
  · refine zG_run t_Program [(.iinc 5 1, 0, 0), (.goto (-102), 0, 0)] (16, [some (zr (some (6, 137))), some (zr (some (1, 74))), some (zl v2), none, some (zi v4), some (zi (v5 + 1)), none, some (zi t0)], [], h) (by decide +kernel) rfl ?_
    exact zG_end (L' := [some (zr (some (6, 137))), some (zr (some (1, 74))), some (zl v2), none, some (zi v4), some (zi (v5 + 1)), none, none]) rfl (And.intro rfl (And.intro rfl (And.intro rfl (And.intro rfl (And.intro rfl trivial)))))
  · refine zG_run t_Program [(.iload 7, 0, 0)] (77, [some (zr (some (6, 137))), some (zr (some (1, 74))), some (zl v2), none, some (zi v4), some (zi v5), none, some (zi t0)], [zi t0], h) (by decide +kernel) rfl ?_
    refine zG_if (op := .eq) (off := 38) (tgt := 115) (by decide +kernel) rfl Iff.rfl (fun c9 => ?_) (fun c9 => ?_)
    · refine zG_run t_Program [(.iinc 5 1, 0, 0), (.goto (-102), 0, 0)] (16, [some (zr (some (6, 137))), some (zr (some (1, 74))), some (zl v2), none, some (zi v4), some (zi (v5 + 1)), none, some (zi t0)], [], h) (by decide +kernel) rfl ?_
      exact zG_end (L' := [some (zr (some (6, 137))), some (zr (some (1, 74))), some (zl v2), none, some (zi v4), some (zi (v5 + 1)), none, none]) rfl (And.intro rfl (And.intro rfl (And.intro rfl (And.intro rfl (And.intro rfl trivial)))))
    · refine zG_run t_Program [(.aload_n 0, 0, 0), (.dup, 0, 0), (.getfield 72, 6, 7), (.aload_n 1, 0, 0), (.getfield 81, 1, 6), (.iload 5, 0, 0)] (91, [some (zr (some (6, 137))), some (zr (some (1, 74))), some (zl v2), none, some (zi v4), some (zi v5), none, some (zi t0)], [zi v5, zr (some (35, 122)), zi (h.1 137 7), zr (some (6, 137))], h) (by decide +kernel) rfl ?_
      refine zG_ald (v := zi (h.1 122 v5.toNatClampNeg)) (n := 44) rfl (by decide +kernel) rfl rfl fun hb5 => ?_
      refine zG_bind (fun y => (96, [some (zr (some (6, 137))), some (zr (some (1, 74))), some (zl v2), none, some (zi v4), some (zi v5), none, some (zi t0)], [], y)) (zG_run t_Program [(.ior, 0, 0), (.putfield 72, 6, 7)] (96, [some (zr (some (6, 137))), some (zr (some (1, 74))), some (zl v2), none, some (zi v4), some (zi v5), none, some (zi t0)], [], zsI h 137 7 ((h.1 137 7) ||| (h.1 122 v5.toNatClampNeg))) (by decide +kernel) rfl (zG_end (L' := [some (zr (some (6, 137))), some (zr (some (1, 74))), some (zl v2), none, some (zi v4), some (zi v5), none, some (zi t0)]) rfl (And.intro rfl (And.intro rfl (And.intro rfl (And.intro rfl (And.intro rfl (And.intro rfl trivial)))))))) fun h6 => ?_
      refine zG_run t_Program [(.aload_n 0, 0, 0), (.dup, 0, 0), (.getfield 75, 6, 8), (.aload_n 1, 0, 0), (.getfield 84, 1, 7), (.iload 5, 0, 0)] (107, [some (zr (some (6, 137))), some (zr (some (1, 74))), some (zl v2), none, some (zi v4), some (zi v5), none, some (zi t0)], [zi v5, zr (some (36, 123)), zi (h6.1 137 8), zr (some (6, 137))], h6) (by decide +kernel) rfl ?_
      refine zG_ald (v := zi (h6.1 123 v5.toNatClampNeg)) (n := 44) rfl (by decide +kernel) rfl rfl fun hb7 => ?_
      refine zG_bind (fun y => (112, [some (zr (some (6, 137))), some (zr (some (1, 74))), some (zl v2), none, some (zi v4), some (zi v5), none, some (zi t0)], [], y)) (zG_run t_Program [(.ior, 0, 0), (.putfield 75, 6, 8)] (112, [some (zr (some (6, 137))), some (zr (some (1, 74))), some (zl v2), none, some (zi v4), some (zi v5), none, some (zi t0)], [], zsI h6 137 8 ((h6.1 137 8) ||| (h6.1 123 v5.toNatClampNeg))) (by decide +kernel) rfl (zG_end (L' := [some (zr (some (6, 137))), some (zr (some (1, 74))), some (zl v2), none, some (zi v4), some (zi v5), none, some (zi t0)]) rfl (And.intro rfl (And.intro rfl (And.intro rfl (And.intro rfl (And.intro rfl (And.intro rfl trivial)))))))) fun h8 => ?_
      refine zG_run t_Program [(.iinc 4 1, 0, 0), (.iinc 5 1, 0, 0), (.goto (-102), 0, 0)] (16, [some (zr (some (6, 137))), some (zr (some (1, 74))), some (zl v2), none, some (zi (v4 + 1)), some (zi (v5 + 1)), none, some (zi t0)], [], h8) (by decide +kernel) rfl ?_
      exact zG_end (L' := [some (zr (some (6, 137))), some (zr (some (1, 74))), some (zl v2), none, some (zi (v4 + 1)), some (zi (v5 + 1)), none, none]) rfl (And.intro rfl (And.intro rfl (And.intro rfl (And.intro rfl (And.intro rfl trivial)))))
set_option maxRecDepth 20000 in
theorem k_Program_mergeCubes_b16 {l : Launch} {X : zX} (hl : l.stackTraces = false) {h : zH} {v2 : Int64} {v4 : Int32} {v5 : Int32} : zGl l m_Program_mergeCubes X 0 0 (f_Program_mergeCubes_b16 h v2 v4 v5) (16, [some (zr (some (6, 137))), some (zr (some (1, 74))), some (zl v2), none, some (zi v4), some (zi v5), none, none], [], h) (Sum.elim (fun s : Int32 × Int32 × zH => .inl (16, [some (zr (some (6, 137))), some (zr (some (1, 74))), some (zl v2), none, some (zi s.1), some (zi s.2.1), none, none], [], s.2.2)) (fun y : Int32 × zH => .inl (121, [none, none, none, none, some (zi y.1), none, none, none], [], y.2))) := by
  unfold f_Program_mergeCubes_b16
  refine zG_run t_Program [(.iload 5, 0, 0), (.aload_n 1, 0, 0), (.getfield 78, 1, 0)] (22, [some (zr (some (6, 137))), some (zr (some (1, 74))), some (zl v2), none, some (zi v4), some (zi v5), none, none], [zi (h.1 74 0), zi v5], h) (by decide +kernel) rfl ?_
  refine zG_icmp (op := .ge) (off := 99) (tgt := 121) (by decide +kernel) rfl Iff.rfl (fun c12 => ?_) (fun c12 => ?_)
  · exact zG_end (L' := [none, none, none, none, some (zi v4), none, none, none]) rfl (And.intro rfl trivial)
  · refine zG_run t_Program [(.aload_n 0, 0, 0), (.getfield 72, 6, 7), (.aload_n 1, 0, 0), (.getfield 81, 1, 6), (.iload 5, 0, 0)] (35, [some (zr (some (6, 137))), some (zr (some (1, 74))), some (zl v2), none, some (zi v4), some (zi v5), none, none], [zi v5, zr (some (35, 122)), zi (h.1 137 7)], h) (by decide +kernel) rfl ?_
    refine zG_ald (v := zi (h.1 122 v5.toNatClampNeg)) (n := 44) rfl (by decide +kernel) rfl rfl fun hb3 => ?_
    refine zG_run t_Program [(.iand, 0, 0), (.istore 6, 0, 0), (.aload_n 0, 0, 0), (.getfield 75, 6, 8), (.aload_n 1, 0, 0), (.getfield 84, 1, 7), (.iload 5, 0, 0)] (49, [some (zr (some (6, 137))), some (zr (some (1, 74))), some (zl v2), none, some (zi v4), some (zi v5), some (zi ((h.1 137 7) &&& (h.1 122 v5.toNatClampNeg))), none], [zi v5, zr (some (36, 123)), zi (h.1 137 8)], h) (by decide +kernel) rfl ?_
    refine zG_ald (v := zi (h.1 123 v5.toNatClampNeg)) (n := 44) rfl (by decide +kernel) rfl rfl fun hb4 => ?_
    refine zG_run t_Program [(.ixor, 0, 0), (.iload 6, 0, 0), (.iand, 0, 0)] (54, [some (zr (some (6, 137))), some (zr (some (1, 74))), some (zl v2), none, some (zi v4), some (zi v5), some (zi ((h.1 137 7) &&& (h.1 122 v5.toNatClampNeg))), none], [zi (((h.1 137 8) ^^^ (h.1 123 v5.toNatClampNeg)) &&& ((h.1 137 7) &&& (h.1 122 v5.toNatClampNeg)))], h) (by decide +kernel) rfl ?_
    refine zG_if (op := .ne) (off := 7) (tgt := 61) (by decide +kernel) rfl Iff.rfl (fun c11 => ?_) (fun c11 => ?_)
    · refine zG_run t_Program [(.iconst 0, 0, 0)] (62, [some (zr (some (6, 137))), some (zr (some (1, 74))), some (zl v2), none, some (zi v4), some (zi v5), some (zi ((h.1 137 7) &&& (h.1 122 v5.toNatClampNeg))), none], [zi 0], h) (by decide +kernel) rfl ?_
      exact zG_forget (L' := [some (zr (some (6, 137))), some (zr (some (1, 74))), some (zl v2), none, some (zi v4), some (zi v5), none, none]) (And.intro rfl (And.intro rfl (And.intro rfl (And.intro rfl (And.intro rfl trivial))))) (k_Program_mergeCubes_j62 hl)
    · refine zG_run t_Program [(.iconst 1, 0, 0), (.goto 4, 0, 0)] (62, [some (zr (some (6, 137))), some (zr (some (1, 74))), some (zl v2), none, some (zi v4), some (zi v5), some (zi ((h.1 137 7) &&& (h.1 122 v5.toNatClampNeg))), none], [zi 1], h) (by decide +kernel) rfl ?_
      exact zG_forget (L' := [some (zr (some (6, 137))), some (zr (some (1, 74))), some (zl v2), none, some (zi v4), some (zi v5), none, none]) (And.intro rfl (And.intro rfl (And.intro rfl (And.intro rfl (And.intro rfl trivial))))) (k_Program_mergeCubes_j62 hl)
set_option maxRecDepth 20000 in
theorem k_Program_mergeCubes {l : Launch} {X : zX} (hl : l.stackTraces = false) {h : zH} {v2 : Int64} : zGl l m_Program_mergeCubes X 0 0 (f_Program_mergeCubes h v2) (0, [some (zr (some (6, 137))), some (zr (some (1, 74))), some (zl v2), none, none, none, none, none], [], h) (fun x => .inr ((fun a => (.inl (some (zi a.1)), a.2) : Int32 × zH → zF) x)) := by
  unfold f_Program_mergeCubes
  refine zG_bind (fun y => (5, [some (zr (some (6, 137))), some (zr (some (1, 74))), some (zl v2), none, none, none, none, none], [], y)) (zG_run t_Program [(.aload_n 0, 0, 0), (.iconst 0, 0, 0), (.putfield 72, 6, 7)] (5, [some (zr (some (6, 137))), some (zr (some (1, 74))), some (zl v2), none, none, none, none, none], [], zsI h 137 7 0) (by decide +kernel) rfl (zG_end (L' := [some (zr (some (6, 137))), some (zr (some (1, 74))), some (zl v2), none, none, none, none, none]) rfl (And.intro rfl (And.intro rfl (And.intro rfl trivial))))) fun h1 => ?_
  refine zG_bind (fun y => (10, [some (zr (some (6, 137))), some (zr (some (1, 74))), some (zl v2), none, none, none, none, none], [], y)) (zG_run t_Program [(.aload_n 0, 0, 0), (.iconst 0, 0, 0), (.putfield 75, 6, 8)] (10, [some (zr (some (6, 137))), some (zr (some (1, 74))), some (zl v2), none, none, none, none, none], [], zsI h1 137 8 0) (by decide +kernel) rfl (zG_end (L' := [some (zr (some (6, 137))), some (zr (some (1, 74))), some (zl v2), none, none, none, none, none]) rfl (And.intro rfl (And.intro rfl (And.intro rfl trivial))))) fun h2 => ?_
  refine zG_run t_Program [(.iconst 0, 0, 0), (.istore 4, 0, 0), (.iconst 0, 0, 0), (.istore 5, 0, 0)] (16, [some (zr (some (6, 137))), some (zr (some (1, 74))), some (zl v2), none, some (zi 0), some (zi 0), none, none], [], h2) (by decide +kernel) rfl ?_
  refine zG_forget (L' := [some (zr (some (6, 137))), some (zr (some (1, 74))), some (zl v2), none, some (zi 0), some (zi 0), none, none]) (And.intro rfl (And.intro rfl (And.intro rfl (And.intro rfl (And.intro rfl trivial))))) ?_
  refine zG_bind (fun y : Int32 × zH => (121, [none, none, none, none, some (zi y.1), none, none, none], [], y.2)) (zG_iter (fun s : Int32 × Int32 × zH => (16, [some (zr (some (6, 137))), some (zr (some (1, 74))), some (zl v2), none, some (zi s.1), some (zi s.2.1), none, none], [], s.2.2)) fun s => k_Program_mergeCubes_b16 hl) (fun y14 => ?_)
  refine zG_run t_Program [(.iload 4, 0, 0)] (123, [none, none, none, none, some (zi y14.1), none, none, none], [zi y14.1], y14.2) (by decide +kernel) rfl ?_
  exact zG_ret (r := some (zi y14.1)) rfl (zrd_i rfl (by decide +kernel))
theorem c_Program_mergeCubes {l : Launch} {X : zX} (hl : l.stackTraces = false) {h : zH} {v2 : Int64} {x : Int32 × zH} (hx : f_Program_mergeCubes h v2 = some x) : zCt l (true, 2) 2 m_Program_mergeCubes X 0 0 [zr (some (6, 137)), zr (some (1, 74)), zl v2] h ((fun a => (.inl (some (zi a.1)), a.2) : Int32 × zH → zF) x) :=
  zG_ct (R := fun a => (.inl (some (zi a.1)), a.2)) (x := x) ok_Program_mergeCubes hl (Nat.le_of_ble_eq_true rfl) hx (k_Program_mergeCubes hl)
def m_Program_firstSet : zM := (({ cls := "ScanPacker$Program", name := "firstSet", desc := "(LScanPacker$Net;I)I" } : Jvm.MethodName), prog_7_method_6_code, 5, (Option.some Jvm.ClassFile.FieldType.int), [], 2)
theorem ok_Program_firstSet : zMok m_Program_firstSet := ⟨by decide +kernel, zW_of 1135 (by decide +kernel) (by decide +kernel), zW_of 128 (by decide +kernel) (by decide +kernel), by decide, by decide +kernel, by decide +kernel⟩
def f_Program_firstSet_b2 (o1 : Nat) (h : zH) (v2 : Int32) (v3 : Int32) : Option ((Int32) ⊕ ((Int32) ⊕ (Unit))) :=
  zg (zb v2 3) <|
  if (h.1 (o1 + 34) v2.toNatClampNeg) ≤ v3 then (
  some (.inr (.inr ()))) else (
  zg (zb v2 3) <|
    zg (zb v3 6) <|
    (f_Main_bitOf (h.1 137 7) (h.1 ((o1 + 30) + (1 + 1 * v2.toNatClampNeg)) v3.toNatClampNeg)).bind fun x4 =>
    if ¬ x4 = 1 then (
    some (.inl (v3 + 1))) else (
    some (.inr (.inl (h.1 ((o1 + 30) + (1 + 1 * v2.toNatClampNeg)) v3.toNatClampNeg)))))
def f_Program_firstSet (o1 : Nat) (h : zH) (v2 : Int32) : Option (Int32) :=
  (zit zFU (fun s : Int32 => f_Program_firstSet_b2 o1 h v2 s) 0).bind (Sum.elim (fun y8 =>
  (f_Main_bitOf (h.1 137 8) y8).bind fun x9 =>
    some x9) (fun y10 =>
  some 0))
set_option maxRecDepth 20000 in
theorem k_Program_firstSet_b2 {l : Launch} {X : zX} (hl : l.stackTraces = false) {o1 : Nat} {h : zH} {v2 : Int32} {v3 : Int32} : zGl l m_Program_firstSet X 0 0 (f_Program_firstSet_b2 o1 h v2 v3) (2, [some (zr (some (6, 137))), some (zr (some (3, o1))), some (zi v2), some (zi v3), none], [], h) (Sum.elim (fun s : Int32 => .inl (2, [some (zr (some (6, 137))), some (zr (some (3, o1))), some (zi v2), some (zi s), none], [], h)) (Sum.elim (fun y : Int32 => .inl (35, [some (zr (some (6, 137))), none, none, none, some (zi y)], [], h)) (fun y : Unit => .inl (51, [none, none, none, none, none], [], h)))) := by
  unfold f_Program_firstSet_b2
  refine zG_run t_Program [(.iload_n 3, 0, 0), (.aload_n 1, 0, 0), (.getfield 102, 3, 15), (.iload_n 2, 0, 0)] (8, [some (zr (some (6, 137))), some (zr (some (3, o1))), some (zi v2), some (zi v3), none], [zi v2, zr (some (31, (o1 + 34))), zi v3], h) (by decide +kernel) rfl ?_
  refine zG_ald (v := zi (h.1 (o1 + 34) v2.toNatClampNeg)) (n := 3) rfl (by decide +kernel) rfl rfl fun hb1 => ?_
  refine zG_icmp (op := .ge) (off := 42) (tgt := 51) (by decide +kernel) rfl Iff.rfl (fun c6 => ?_) (fun c6 => ?_)
  · exact zG_end (L' := [none, none, none, none, none]) rfl (trivial)
  · refine zG_run t_Program [(.aload_n 1, 0, 0), (.getfield 105, 3, 14), (.iload_n 2, 0, 0)] (17, [some (zr (some (6, 137))), some (zr (some (3, o1))), some (zi v2), some (zi v3), none], [zi v2, zr (some (29, (o1 + 30)))], h) (by decide +kernel) rfl ?_
    refine zG_ald (v := zr (some (30, ((o1 + 30) + (1 + 1 * v2.toNatClampNeg))))) (n := 3) rfl (by decide +kernel) rfl rfl fun hb2 => ?_
    refine zG_run t_Program [(.iload_n 3, 0, 0)] (19, [some (zr (some (6, 137))), some (zr (some (3, o1))), some (zi v2), some (zi v3), none], [zi v3, zr (some (30, ((o1 + 30) + (1 + 1 * v2.toNatClampNeg))))], h) (by decide +kernel) rfl ?_
    refine zG_ald (v := zi (h.1 ((o1 + 30) + (1 + 1 * v2.toNatClampNeg)) v3.toNatClampNeg)) (n := 6) rfl (by decide +kernel) rfl rfl fun hb3 => ?_
    refine zG_run t_Program [(.istore 4, 0, 0), (.aload_n 0, 0, 0), (.getfield 72, 6, 7), (.iload 4, 0, 0)] (28, [some (zr (some (6, 137))), some (zr (some (3, o1))), some (zi v2), some (zi v3), some (zi (h.1 ((o1 + 30) + (1 + 1 * v2.toNatClampNeg)) v3.toNatClampNeg))], [zi (h.1 ((o1 + 30) + (1 + 1 * v2.toNatClampNeg)) v3.toNatClampNeg), zi (h.1 137 7)], h) (by decide +kernel) rfl ?_
    refine zG_callN (idx := 108) (host := "ScanPacker") (R := (fun a => (some (zi a), h))) (as := [zi (h.1 137 7), zi (h.1 ((o1 + 30) + (1 + 1 * v2.toNatClampNeg)) v3.toNatClampNeg)]) (rest := []) (n := 2) (fun a ha => c_Main_bitOf hl ha) (by decide +kernel) ⟨ok_Main_bitOf, by decide, by decide +kernel⟩ rfl (by decide +kernel) w_68 rfl rfl (Nat.le_of_ble_eq_true rfl) fun x4 => ?_
    refine zG_run t_Program [(.iconst 1, 0, 0)] (32, [some (zr (some (6, 137))), some (zr (some (3, o1))), some (zi v2), some (zi v3), some (zi (h.1 ((o1 + 30) + (1 + 1 * v2.toNatClampNeg)) v3.toNatClampNeg))], [zi 1, zi x4], h) (by decide +kernel) rfl ?_
    refine zG_icmp (op := .ne) (off := 13) (tgt := 45) (by decide +kernel) rfl Iff.rfl (fun c5 => ?_) (fun c5 => ?_)
    · refine zG_run t_Program [(.iinc 3 1, 0, 0), (.goto (-46), 0, 0)] (2, [some (zr (some (6, 137))), some (zr (some (3, o1))), some (zi v2), some (zi (v3 + 1)), some (zi (h.1 ((o1 + 30) + (1 + 1 * v2.toNatClampNeg)) v3.toNatClampNeg))], [], h) (by decide +kernel) rfl ?_
      exact zG_end (L' := [some (zr (some (6, 137))), some (zr (some (3, o1))), some (zi v2), some (zi (v3 + 1)), none]) rfl (And.intro rfl (And.intro rfl (And.intro rfl (And.intro rfl trivial))))
    · exact zG_end (L' := [some (zr (some (6, 137))), none, none, none, some (zi (h.1 ((o1 + 30) + (1 + 1 * v2.toNatClampNeg)) v3.toNatClampNeg))]) rfl (And.intro rfl (And.intro rfl trivial))
set_option maxRecDepth 20000 in
theorem k_Program_firstSet {l : Launch} {X : zX} (hl : l.stackTraces = false) {o1 : Nat} {h : zH} {v2 : Int32} : zGl l m_Program_firstSet X 0 0 (f_Program_firstSet o1 h v2) (0, [some (zr (some (6, 137))), some (zr (some (3, o1))), some (zi v2), none, none], [], h) (fun x => .inr ((fun a => (.inl (some (zi a)), h) : Int32 → zF) x)) := by
  unfold f_Program_firstSet
  refine zG_run t_Program [(.iconst 0, 0, 0), (.istore_n 3, 0, 0)] (2, [some (zr (some (6, 137))), some (zr (some (3, o1))), some (zi v2), some (zi 0), none], [], h) (by decide +kernel) rfl ?_
  refine zG_forget (L' := [some (zr (some (6, 137))), some (zr (some (3, o1))), some (zi v2), some (zi 0), none]) (And.intro rfl (And.intro rfl (And.intro rfl (And.intro rfl trivial)))) ?_
  refine zG_bind2 (fun y : Int32 => (35, [some (zr (some (6, 137))), none, none, none, some (zi y)], [], h)) (fun y : Unit => (51, [none, none, none, none, none], [], h)) (zG_iter (fun s : Int32 => (2, [some (zr (some (6, 137))), some (zr (some (3, o1))), some (zi v2), some (zi s), none], [], h)) fun s => k_Program_firstSet_b2 hl) (fun y8 => ?_) (fun y10 => ?_)
  · refine zG_run t_Program [(.aload_n 0, 0, 0), (.getfield 75, 6, 8), (.iload 4, 0, 0)] (41, [some (zr (some (6, 137))), none, none, none, some (zi y8)], [zi y8, zi (h.1 137 8)], h) (by decide +kernel) rfl ?_
    refine zG_callN (idx := 108) (host := "ScanPacker") (R := (fun a => (some (zi a), h))) (as := [zi (h.1 137 8), zi y8]) (rest := []) (n := 2) (fun a ha => c_Main_bitOf hl ha) (by decide +kernel) ⟨ok_Main_bitOf, by decide, by decide +kernel⟩ rfl (by decide +kernel) w_68 rfl rfl (Nat.le_of_ble_eq_true rfl) fun x9 => ?_
    exact zG_ret (r := some (zi x9)) rfl (zrd_i rfl (by decide +kernel))
  · refine zG_run t_Program [(.iconst 0, 0, 0)] (52, [none, none, none, none, none], [zi 0], h) (by decide +kernel) rfl ?_
    exact zG_ret (r := some (zi 0)) rfl (zrd_i rfl (by decide +kernel))
theorem c_Program_firstSet {l : Launch} {X : zX} (hl : l.stackTraces = false) {o1 : Nat} {h : zH} {v2 : Int32} {x : Int32} (hx : f_Program_firstSet o1 h v2 = some x) : zCt l (true, 2) 2 m_Program_firstSet X 0 0 [zr (some (6, 137)), zr (some (3, o1)), zi v2] h ((fun a => (.inl (some (zi a)), h) : Int32 → zF) x) :=
  zG_ct (R := fun a => (.inl (some (zi a)), h)) (x := x) ok_Program_firstSet hl (Nat.le_of_ble_eq_true rfl) hx (k_Program_firstSet hl)
def m_Main_withBit : zM := (({ cls := "ScanPacker", name := "withBit", desc := "(III)I" } : Jvm.MethodName), prog_1_method_48_code, 3, (Option.some Jvm.ClassFile.FieldType.int), [], 1)
theorem ok_Main_withBit : zMok m_Main_withBit := ⟨by decide +kernel, zW_of 744 (by decide +kernel) (by decide +kernel), zW_of 122 (by decide +kernel) (by decide +kernel), by decide, by decide +kernel, by decide +kernel⟩
def f_Main_withBit (v0 : Int32) (v1 : Int32) (v2 : Int32) : Option (Int32) :=
  some ((v0 &&& ((zshl 1 v1) ^^^ (-1))) ||| (zshl v2 v1))
set_option maxRecDepth 20000 in
theorem k_Main_withBit {l : Launch} {X : zX} (hl : l.stackTraces = false) {h : zH} {v0 : Int32} {v1 : Int32} {v2 : Int32} : zGl l m_Main_withBit X 0 0 (f_Main_withBit v0 v1 v2) (0, [some (zi v0), some (zi v1), some (zi v2)], [], h) (fun x => .inr ((fun a => (.inl (some (zi a)), h) : Int32 → zF) x)) := by
  unfold f_Main_withBit
  refine zG_run t_Main [(.iload_n 0, 0, 0), (.iconst 1, 0, 0), (.iload_n 1, 0, 0), (.ishl, 0, 0), (.iconst (-1), 0, 0), (.ixor, 0, 0), (.iand, 0, 0), (.iload_n 2, 0, 0), (.iload_n 1, 0, 0), (.ishl, 0, 0), (.ior, 0, 0)] (11, [some (zi v0), some (zi v1), some (zi v2)], [zi ((v0 &&& ((zshl 1 v1) ^^^ (-1))) ||| (zshl v2 v1))], h) (by decide +kernel) rfl ?_
  exact zG_ret (r := some (zi ((v0 &&& ((zshl 1 v1) ^^^ (-1))) ||| (zshl v2 v1)))) rfl (zrd_i rfl (by decide +kernel))
theorem c_Main_withBit {l : Launch} {X : zX} (hl : l.stackTraces = false) {h : zH} {v0 : Int32} {v1 : Int32} {v2 : Int32} {x : Int32} (hx : f_Main_withBit v0 v1 v2 = some x) : zCt l (true, 2) 2 m_Main_withBit X 0 0 [zi v0, zi v1, zi v2] h ((fun a => (.inl (some (zi a)), h) : Int32 → zF) x) :=
  zG_ct (R := fun a => (.inl (some (zi a)), h)) (x := x) ok_Main_withBit hl (Nat.le_of_ble_eq_true rfl) hx (k_Main_withBit hl)
def m_Program_fillChain : zM := (({ cls := "ScanPacker$Program", name := "fillChain", desc := "(LScanPacker$Net;II)I" } : Jvm.MethodName), prog_7_method_5_code, 8, (Option.some Jvm.ClassFile.FieldType.int), [], 3)
theorem ok_Program_fillChain : zMok m_Program_fillChain := ⟨by decide +kernel, zW_of 1131 (by decide +kernel) (by decide +kernel), zW_of 128 (by decide +kernel) (by decide +kernel), by decide, by decide +kernel, by decide +kernel⟩
def f_Program_fillChain_j60 (o1 : Nat) (h : zH) (v2 : Int32) (v4 : Int32) (v5 : Int32) (v6 : Int32) (v7 : Int32) : Option ((Int32 × Int32 × Int32) ⊕ (Int32)) :=
  (f_Main_withBit v4 v7 v5).bind fun x6 =>
  some (.inl (x6, v5, (v6 + 1)))
def f_Program_fillChain_b14 (o1 : Nat) (h : zH) (v2 : Int32) (v4 : Int32) (v5 : Int32) (v6 : Int32) : Option ((Int32 × Int32 × Int32) ⊕ (Int32)) :=
  zg (zb v2 3) <|
  if (h.1 (o1 + 34) v2.toNatClampNeg) ≤ v6 then (
  some (.inr v4)) else (
  zg (zb v2 3) <|
    zg (zb v6 6) <|
    (f_Main_bitOf (h.1 137 7) (h.1 ((o1 + 30) + (1 + 1 * v2.toNatClampNeg)) v6.toNatClampNeg)).bind fun x5 =>
    if ¬ x5 = 1 then (
    f_Program_fillChain_j60 o1 h v2 v4 v5 v6 (h.1 ((o1 + 30) + (1 + 1 * v2.toNatClampNeg)) v6.toNatClampNeg)) else (
    (f_Main_bitOf (h.1 137 8) (h.1 ((o1 + 30) + (1 + 1 * v2.toNatClampNeg)) v6.toNatClampNeg)).bind fun x7 =>
      f_Program_fillChain_j60 o1 h v2 v4 x7 v6 (h.1 ((o1 + 30) + (1 + 1 * v2.toNatClampNeg)) v6.toNatClampNeg)))
def f_Program_fillChain (o1 : Nat) (h : zH) (v2 : Int32) (v3 : Int32) : Option (Int32) :=
  (f_Program_firstSet o1 h v2).bind fun x1 =>
  (zit zFU (fun s : Int32 × Int32 × Int32 => f_Program_fillChain_b14 o1 h v2 s.1 s.2.1 s.2.2) (v3, x1, 0)).bind (fun y11 =>
  some y11)
set_option maxRecDepth 20000 in
theorem k_Program_fillChain_j60 {l : Launch} {X : zX} (hl : l.stackTraces = false) {o1 : Nat} {h : zH} {v2 : Int32} {v4 : Int32} {v5 : Int32} {v6 : Int32} {v7 : Int32} : zGl l m_Program_fillChain X 0 0 (f_Program_fillChain_j60 o1 h v2 v4 v5 v6 v7) (60, [some (zr (some (6, 137))), some (zr (some (3, o1))), some (zi v2), none, some (zi v4), some (zi v5), some (zi v6), some (zi v7)], [], h) (Sum.elim (fun s : Int32 × Int32 × Int32 => .inl (14, [some (zr (some (6, 137))), some (zr (some (3, o1))), some (zi v2), none, some (zi s.1), some (zi s.2.1), some (zi s.2.2), none], [], h)) (fun y : Int32 => .inl (77, [none, none, none, none, some (zi y), none, none, none], [], h))) := by
  unfold f_Program_fillChain_j60
  refine zG_run t_Program [(.iload 4, 0, 0), (.iload 7, 0, 0), (.iload 5, 0, 0)] (66, [some (zr (some (6, 137))), some (zr (some (3, o1))), some (zi v2), none, some (zi v4), some (zi v5), some (zi v6), some (zi v7)], [zi v5, zi v7, zi v4], h) (by decide +kernel) rfl ?_
  refine zG_callN (idx := 112) (host := "ScanPacker") (R := (fun a => (some (zi a), h))) (as := [zi v4, zi v7, zi v5]) (rest := []) (n := 3) (fun a ha => c_Main_withBit hl ha) (by decide +kernel) ⟨ok_Main_withBit, by decide, by decide +kernel⟩ rfl (by decide +kernel) w_190 rfl rfl (Nat.le_of_ble_eq_true rfl) fun x6 => ?_
  refine zG_run t_Program [(.istore 4, 0, 0), (.iinc 6 1, 0, 0), (.goto (-60), 0, 0)] (14, [some (zr (some (6, 137))), some (zr (some (3, o1))), some (zi v2), none, some (zi x6), some (zi v5), some (zi (v6 + 1)), some (zi v7)], [], h) (by decide +kernel) rfl ?_
  exact zG_end (L' := [some (zr (some (6, 137))), some (zr (some (3, o1))), some (zi v2), none, some (zi x6), some (zi v5), some (zi (v6 + 1)), none]) rfl (And.intro rfl (And.intro rfl (And.intro rfl (And.intro rfl (And.intro rfl (And.intro rfl trivial))))))
set_option maxRecDepth 20000 in
theorem k_Program_fillChain_b14 {l : Launch} {X : zX} (hl : l.stackTraces = false) {o1 : Nat} {h : zH} {v2 : Int32} {v4 : Int32} {v5 : Int32} {v6 : Int32} : zGl l m_Program_fillChain X 0 0 (f_Program_fillChain_b14 o1 h v2 v4 v5 v6) (14, [some (zr (some (6, 137))), some (zr (some (3, o1))), some (zi v2), none, some (zi v4), some (zi v5), some (zi v6), none], [], h) (Sum.elim (fun s : Int32 × Int32 × Int32 => .inl (14, [some (zr (some (6, 137))), some (zr (some (3, o1))), some (zi v2), none, some (zi s.1), some (zi s.2.1), some (zi s.2.2), none], [], h)) (fun y : Int32 => .inl (77, [none, none, none, none, some (zi y), none, none, none], [], h))) := by
  unfold f_Program_fillChain_b14
  refine zG_run t_Program [(.iload 6, 0, 0), (.aload_n 1, 0, 0), (.getfield 102, 3, 15), (.iload_n 2, 0, 0)] (21, [some (zr (some (6, 137))), some (zr (some (3, o1))), some (zi v2), none, some (zi v4), some (zi v5), some (zi v6), none], [zi v2, zr (some (31, (o1 + 34))), zi v6], h) (by decide +kernel) rfl ?_
  refine zG_ald (v := zi (h.1 (o1 + 34) v2.toNatClampNeg)) (n := 3) rfl (by decide +kernel) rfl rfl fun hb2 => ?_
  refine zG_icmp (op := .ge) (off := 55) (tgt := 77) (by decide +kernel) rfl Iff.rfl (fun c9 => ?_) (fun c9 => ?_)
  · exact zG_end (L' := [none, none, none, none, some (zi v4), none, none, none]) rfl (And.intro rfl trivial)
  · refine zG_run t_Program [(.aload_n 1, 0, 0), (.getfield 105, 3, 14), (.iload_n 2, 0, 0)] (30, [some (zr (some (6, 137))), some (zr (some (3, o1))), some (zi v2), none, some (zi v4), some (zi v5), some (zi v6), none], [zi v2, zr (some (29, (o1 + 30)))], h) (by decide +kernel) rfl ?_
    refine zG_ald (v := zr (some (30, ((o1 + 30) + (1 + 1 * v2.toNatClampNeg))))) (n := 3) rfl (by decide +kernel) rfl rfl fun hb3 => ?_
    refine zG_run t_Program [(.iload 6, 0, 0)] (33, [some (zr (some (6, 137))), some (zr (some (3, o1))), some (zi v2), none, some (zi v4), some (zi v5), some (zi v6), none], [zi v6, zr (some (30, ((o1 + 30) + (1 + 1 * v2.toNatClampNeg))))], h) (by decide +kernel) rfl ?_
    refine zG_ald (v := zi (h.1 ((o1 + 30) + (1 + 1 * v2.toNatClampNeg)) v6.toNatClampNeg)) (n := 6) rfl (by decide +kernel) rfl rfl fun hb4 => ?_
    refine zG_run t_Program [(.istore 7, 0, 0), (.aload_n 0, 0, 0), (.getfield 72, 6, 7), (.iload 7, 0, 0)] (42, [some (zr (some (6, 137))), some (zr (some (3, o1))), some (zi v2), none, some (zi v4), some (zi v5), some (zi v6), some (zi (h.1 ((o1 + 30) + (1 + 1 * v2.toNatClampNeg)) v6.toNatClampNeg))], [zi (h.1 ((o1 + 30) + (1 + 1 * v2.toNatClampNeg)) v6.toNatClampNeg), zi (h.1 137 7)], h) (by decide +kernel) rfl ?_
    refine zG_callN (idx := 108) (host := "ScanPacker") (R := (fun a => (some (zi a), h))) (as := [zi (h.1 137 7), zi (h.1 ((o1 + 30) + (1 + 1 * v2.toNatClampNeg)) v6.toNatClampNeg)]) (rest := []) (n := 2) (fun a ha => c_Main_bitOf hl ha) (by decide +kernel) ⟨ok_Main_bitOf, by decide, by decide +kernel⟩ rfl (by decide +kernel) w_68 rfl rfl (Nat.le_of_ble_eq_true rfl) fun x5 => ?_
    refine zG_run t_Program [(.iconst 1, 0, 0)] (46, [some (zr (some (6, 137))), some (zr (some (3, o1))), some (zi v2), none, some (zi v4), some (zi v5), some (zi v6), some (zi (h.1 ((o1 + 30) + (1 + 1 * v2.toNatClampNeg)) v6.toNatClampNeg))], [zi 1, zi x5], h) (by decide +kernel) rfl ?_
    refine zG_icmp (op := .ne) (off := 14) (tgt := 60) (by decide +kernel) rfl Iff.rfl (fun c8 => ?_) (fun c8 => ?_)
    · exact zG_forget (L' := [some (zr (some (6, 137))), some (zr (some (3, o1))), some (zi v2), none, some (zi v4), some (zi v5), some (zi v6), some (zi (h.1 ((o1 + 30) + (1 + 1 * v2.toNatClampNeg)) v6.toNatClampNeg))]) (And.intro rfl (And.intro rfl (And.intro rfl (And.intro rfl (And.intro rfl (And.intro rfl (And.intro rfl trivial))))))) (k_Program_fillChain_j60 hl)
    · refine zG_run t_Program [(.aload_n 0, 0, 0), (.getfield 75, 6, 8), (.iload 7, 0, 0)] (55, [some (zr (some (6, 137))), some (zr (some (3, o1))), some (zi v2), none, some (zi v4), some (zi v5), some (zi v6), some (zi (h.1 ((o1 + 30) + (1 + 1 * v2.toNatClampNeg)) v6.toNatClampNeg))], [zi (h.1 ((o1 + 30) + (1 + 1 * v2.toNatClampNeg)) v6.toNatClampNeg), zi (h.1 137 8)], h) (by decide +kernel) rfl ?_
      refine zG_callN (idx := 108) (host := "ScanPacker") (R := (fun a => (some (zi a), h))) (as := [zi (h.1 137 8), zi (h.1 ((o1 + 30) + (1 + 1 * v2.toNatClampNeg)) v6.toNatClampNeg)]) (rest := []) (n := 2) (fun a ha => c_Main_bitOf hl ha) (by decide +kernel) ⟨ok_Main_bitOf, by decide, by decide +kernel⟩ rfl (by decide +kernel) w_68 rfl rfl (Nat.le_of_ble_eq_true rfl) fun x7 => ?_
      refine zG_run t_Program [(.istore 5, 0, 0)] (60, [some (zr (some (6, 137))), some (zr (some (3, o1))), some (zi v2), none, some (zi v4), some (zi x7), some (zi v6), some (zi (h.1 ((o1 + 30) + (1 + 1 * v2.toNatClampNeg)) v6.toNatClampNeg))], [], h) (by decide +kernel) rfl ?_
      exact zG_forget (L' := [some (zr (some (6, 137))), some (zr (some (3, o1))), some (zi v2), none, some (zi v4), some (zi x7), some (zi v6), some (zi (h.1 ((o1 + 30) + (1 + 1 * v2.toNatClampNeg)) v6.toNatClampNeg))]) (And.intro rfl (And.intro rfl (And.intro rfl (And.intro rfl (And.intro rfl (And.intro rfl (And.intro rfl trivial))))))) (k_Program_fillChain_j60 hl)
set_option maxRecDepth 20000 in
theorem k_Program_fillChain {l : Launch} {X : zX} (hl : l.stackTraces = false) {o1 : Nat} {h : zH} {v2 : Int32} {v3 : Int32} : zGl l m_Program_fillChain X 0 0 (f_Program_fillChain o1 h v2 v3) (0, [some (zr (some (6, 137))), some (zr (some (3, o1))), some (zi v2), some (zi v3), none, none, none, none], [], h) (fun x => .inr ((fun a => (.inl (some (zi a)), h) : Int32 → zF) x)) := by
  unfold f_Program_fillChain
  refine zG_run t_Program [(.iload_n 3, 0, 0), (.istore 4, 0, 0), (.aload_n 0, 0, 0), (.aload_n 1, 0, 0), (.iload_n 2, 0, 0)] (6, [some (zr (some (6, 137))), some (zr (some (3, o1))), some (zi v2), some (zi v3), some (zi v3), none, none, none], [zi v2, zr (some (3, o1)), zr (some (6, 137))], h) (by decide +kernel) rfl ?_
  refine zG_callV (idx := 99) (R := (fun a => (some (zi a), h))) (as := [zr (some (3, o1)), zi v2]) (rest := []) (n := 2) (fun a ha => c_Program_firstSet hl ha) (by decide +kernel) ⟨ok_Program_firstSet, by decide, by decide +kernel⟩ rfl w_187 w_188 w_189 (by decide) rfl rfl rfl (Nat.le_of_ble_eq_true rfl) fun x1 => ?_
  refine zG_run t_Program [(.istore 5, 0, 0), (.iconst 0, 0, 0), (.istore 6, 0, 0)] (14, [some (zr (some (6, 137))), some (zr (some (3, o1))), some (zi v2), some (zi v3), some (zi v3), some (zi x1), some (zi 0), none], [], h) (by decide +kernel) rfl ?_
  refine zG_forget (L' := [some (zr (some (6, 137))), some (zr (some (3, o1))), some (zi v2), none, some (zi v3), some (zi x1), some (zi 0), none]) (And.intro rfl (And.intro rfl (And.intro rfl (And.intro rfl (And.intro rfl (And.intro rfl trivial)))))) ?_
  refine zG_bind (fun y : Int32 => (77, [none, none, none, none, some (zi y), none, none, none], [], h)) (zG_iter (fun s : Int32 × Int32 × Int32 => (14, [some (zr (some (6, 137))), some (zr (some (3, o1))), some (zi v2), none, some (zi s.1), some (zi s.2.1), some (zi s.2.2), none], [], h)) fun s => k_Program_fillChain_b14 hl) (fun y11 => ?_)
  refine zG_run t_Program [(.iload 4, 0, 0)] (79, [none, none, none, none, some (zi y11), none, none, none], [zi y11], h) (by decide +kernel) rfl ?_
  exact zG_ret (r := some (zi y11)) rfl (zrd_i rfl (by decide +kernel))
theorem c_Program_fillChain {l : Launch} {X : zX} (hl : l.stackTraces = false) {o1 : Nat} {h : zH} {v2 : Int32} {v3 : Int32} {x : Int32} (hx : f_Program_fillChain o1 h v2 v3 = some x) : zCt l (true, 2) 2 m_Program_fillChain X 0 0 [zr (some (6, 137)), zr (some (3, o1)), zi v2, zi v3] h ((fun a => (.inl (some (zi a)), h) : Int32 → zF) x) :=
  zG_ct (R := fun a => (.inl (some (zi a)), h)) (x := x) ok_Program_fillChain hl (Nat.le_of_ble_eq_true rfl) hx (k_Program_fillChain hl)
def m_Program_fillUp : zM := (({ cls := "ScanPacker$Program", name := "fillUp", desc := "(LScanPacker$Net;I)I" } : Jvm.MethodName), prog_7_method_4_code, 6, (Option.some Jvm.ClassFile.FieldType.int), [], 4)
theorem ok_Program_fillUp : zMok m_Program_fillUp := ⟨by decide +kernel, zW_of 1127 (by decide +kernel) (by decide +kernel), zW_of 128 (by decide +kernel) (by decide +kernel), by decide, by decide +kernel, by decide +kernel⟩
def f_Program_fillUp_b42 (o1 : Nat) (h : zH) (v4 : Int32) (v5 : Int32) : Option ((Int32 × Int32) ⊕ (Int32)) :=
  if (h.1 o1 2) ≤ v5 then (
  some (.inr v4)) else (
  (f_Program_fillChain o1 h v5 v4).bind fun x1 =>
    some (.inl (x1, (v5 + 1))))
def f_Program_fillUp (o1 : Nat) (h : zH) (v2 : Int32) : Option (Int32) :=
  if ¬ v2 = 1 then (
  if ¬ v2 = 2 then (
    some (h.1 137 8)) else (
    (zit zFU (fun s : Int32 × Int32 => f_Program_fillUp_b42 o1 h s.1 s.2) ((h.1 137 8), 0)).bind (fun y4 =>
      some y4))) else (
  some ((h.1 137 8) ||| (((zshl 1 (h.1 o1 0)) - 1) &&& ((h.1 137 7) ^^^ (-1)))))
set_option maxRecDepth 20000 in
theorem k_Program_fillUp_b42 {l : Launch} {X : zX} (hl : l.stackTraces = false) {o1 : Nat} {h : zH} {v4 : Int32} {v5 : Int32} : zGl l m_Program_fillUp X 0 0 (f_Program_fillUp_b42 o1 h v4 v5) (42, [some (zr (some (6, 137))), some (zr (some (3, o1))), none, none, some (zi v4), some (zi v5)], [], h) (Sum.elim (fun s : Int32 × Int32 => .inl (42, [some (zr (some (6, 137))), some (zr (some (3, o1))), none, none, some (zi s.1), some (zi s.2)], [], h)) (fun y : Int32 => .inl (68, [none, none, none, none, some (zi y), none], [], h))) := by
  unfold f_Program_fillUp_b42
  refine zG_run t_Program [(.iload 5, 0, 0), (.aload_n 1, 0, 0), (.getfield 92, 3, 2)] (48, [some (zr (some (6, 137))), some (zr (some (3, o1))), none, none, some (zi v4), some (zi v5)], [zi (h.1 o1 2), zi v5], h) (by decide +kernel) rfl ?_
  refine zG_icmp (op := .ge) (off := 20) (tgt := 68) (by decide +kernel) rfl Iff.rfl (fun c2 => ?_) (fun c2 => ?_)
  · exact zG_end (L' := [none, none, none, none, some (zi v4), none]) rfl (And.intro rfl trivial)
  · refine zG_run t_Program [(.aload_n 0, 0, 0), (.aload_n 1, 0, 0), (.iload 5, 0, 0), (.iload 4, 0, 0)] (57, [some (zr (some (6, 137))), some (zr (some (3, o1))), none, none, some (zi v4), some (zi v5)], [zi v4, zi v5, zr (some (3, o1)), zr (some (6, 137))], h) (by decide +kernel) rfl ?_
    refine zG_callV (idx := 95) (R := (fun a => (some (zi a), h))) (as := [zr (some (3, o1)), zi v5, zi v4]) (rest := []) (n := 3) (fun a ha => c_Program_fillChain hl ha) (by decide +kernel) ⟨ok_Program_fillChain, by decide, by decide +kernel⟩ rfl w_191 w_192 w_193 (by decide) rfl rfl rfl (Nat.le_of_ble_eq_true rfl) fun x1 => ?_
    refine zG_run t_Program [(.istore 4, 0, 0), (.iinc 5 1, 0, 0), (.goto (-23), 0, 0)] (42, [some (zr (some (6, 137))), some (zr (some (3, o1))), none, none, some (zi x1), some (zi (v5 + 1))], [], h) (by decide +kernel) rfl ?_
    exact zG_end (L' := [some (zr (some (6, 137))), some (zr (some (3, o1))), none, none, some (zi x1), some (zi (v5 + 1))]) rfl (And.intro rfl (And.intro rfl (And.intro rfl (And.intro rfl trivial))))
set_option maxRecDepth 20000 in
theorem k_Program_fillUp {l : Launch} {X : zX} (hl : l.stackTraces = false) {o1 : Nat} {h : zH} {v2 : Int32} : zGl l m_Program_fillUp X 0 0 (f_Program_fillUp o1 h v2) (0, [some (zr (some (6, 137))), some (zr (some (3, o1))), some (zi v2), none, none, none], [], h) (fun x => .inr ((fun a => (.inl (some (zi a)), h) : Int32 → zF) x)) := by
  unfold f_Program_fillUp
  refine zG_run t_Program [(.iconst 1, 0, 0), (.aload_n 1, 0, 0), (.getfield 87, 3, 0), (.ishl, 0, 0), (.iconst 1, 0, 0), (.isub, 0, 0), (.istore_n 3, 0, 0), (.iload_n 2, 0, 0), (.iconst 1, 0, 0)] (11, [some (zr (some (6, 137))), some (zr (some (3, o1))), some (zi v2), some (zi ((zshl 1 (h.1 o1 0)) - 1)), none, none], [zi 1, zi v2], h) (by decide +kernel) rfl ?_
  refine zG_icmp (op := .ne) (off := 17) (tgt := 28) (by decide +kernel) rfl Iff.rfl (fun c6 => ?_) (fun c6 => ?_)
  · refine zG_run t_Program [(.aload_n 0, 0, 0), (.getfield 75, 6, 8), (.istore 4, 0, 0), (.iload_n 2, 0, 0), (.iconst 2, 0, 0)] (36, [some (zr (some (6, 137))), some (zr (some (3, o1))), some (zi v2), some (zi ((zshl 1 (h.1 o1 0)) - 1)), some (zi (h.1 137 8)), none], [zi 2, zi v2], h) (by decide +kernel) rfl ?_
    refine zG_icmp (op := .ne) (off := 32) (tgt := 68) (by decide +kernel) rfl Iff.rfl (fun c5 => ?_) (fun c5 => ?_)
    · refine zG_run t_Program [(.iload 4, 0, 0)] (70, [some (zr (some (6, 137))), some (zr (some (3, o1))), some (zi v2), some (zi ((zshl 1 (h.1 o1 0)) - 1)), some (zi (h.1 137 8)), none], [zi (h.1 137 8)], h) (by decide +kernel) rfl ?_
      exact zG_ret (r := some (zi (h.1 137 8))) rfl (zrd_i rfl (by decide +kernel))
    · refine zG_run t_Program [(.iconst 0, 0, 0), (.istore 5, 0, 0)] (42, [some (zr (some (6, 137))), some (zr (some (3, o1))), some (zi v2), some (zi ((zshl 1 (h.1 o1 0)) - 1)), some (zi (h.1 137 8)), some (zi 0)], [], h) (by decide +kernel) rfl ?_
      refine zG_forget (L' := [some (zr (some (6, 137))), some (zr (some (3, o1))), none, none, some (zi (h.1 137 8)), some (zi 0)]) (And.intro rfl (And.intro rfl (And.intro rfl (And.intro rfl trivial)))) ?_
      refine zG_bind (fun y : Int32 => (68, [none, none, none, none, some (zi y), none], [], h)) (zG_iter (fun s : Int32 × Int32 => (42, [some (zr (some (6, 137))), some (zr (some (3, o1))), none, none, some (zi s.1), some (zi s.2)], [], h)) fun s => k_Program_fillUp_b42 hl) (fun y4 => ?_)
      refine zG_run t_Program [(.iload 4, 0, 0)] (70, [none, none, none, none, some (zi y4), none], [zi y4], h) (by decide +kernel) rfl ?_
      exact zG_ret (r := some (zi y4)) rfl (zrd_i rfl (by decide +kernel))
  · refine zG_run t_Program [(.aload_n 0, 0, 0), (.getfield 75, 6, 8), (.iload_n 3, 0, 0), (.aload_n 0, 0, 0), (.getfield 72, 6, 7), (.iconst (-1), 0, 0), (.ixor, 0, 0), (.iand, 0, 0), (.ior, 0, 0)] (27, [some (zr (some (6, 137))), some (zr (some (3, o1))), some (zi v2), some (zi ((zshl 1 (h.1 o1 0)) - 1)), none, none], [zi ((h.1 137 8) ||| (((zshl 1 (h.1 o1 0)) - 1) &&& ((h.1 137 7) ^^^ (-1))))], h) (by decide +kernel) rfl ?_
    exact zG_ret (r := some (zi ((h.1 137 8) ||| (((zshl 1 (h.1 o1 0)) - 1) &&& ((h.1 137 7) ^^^ (-1)))))) rfl (zrd_i rfl (by decide +kernel))
theorem c_Program_fillUp {l : Launch} {X : zX} (hl : l.stackTraces = false) {o1 : Nat} {h : zH} {v2 : Int32} {x : Int32} (hx : f_Program_fillUp o1 h v2 = some x) : zCt l (true, 2) 2 m_Program_fillUp X 0 0 [zr (some (6, 137)), zr (some (3, o1)), zi v2] h ((fun a => (.inl (some (zi a)), h) : Int32 → zF) x) :=
  zG_ct (R := fun a => (.inl (some (zi a)), h)) (x := x) ok_Program_fillUp hl (Nat.le_of_ble_eq_true rfl) hx (k_Program_fillUp hl)
def m_Catalog_caughtBy : zM := (({ cls := "ScanPacker$Catalog", name := "caughtBy", desc := "(I)J" } : Jvm.MethodName), prog_2_method_12_code, 5, (Option.some Jvm.ClassFile.FieldType.long), [], 1)
theorem ok_Catalog_caughtBy : zMok m_Catalog_caughtBy := ⟨by decide +kernel, zW_of 802 (by decide +kernel) (by decide +kernel), zW_of 126 (by decide +kernel) (by decide +kernel), by decide, by decide +kernel, by decide +kernel⟩
def f_Catalog_caughtBy_b5 (h : zH) (v1 : Int32) (v2 : Int64) (v4 : Int32) : Option ((Int64 × Int32) ⊕ (Int64)) :=
  if (h.1 74 0) ≤ v4 then (
  some (.inr v2)) else (
  zg (zb v4 44) <|
    some (.inl ((v2 ||| (zlshl ((zlushr (h.2.1 121 v4.toNatClampNeg) v1) &&& 1) v4)), (v4 + 1))))
def f_Catalog_caughtBy (h : zH) (v1 : Int32) : Option (Int64) :=
  (zit zFU (fun s : Int64 × Int32 => f_Catalog_caughtBy_b5 h v1 s.1 s.2) (0, 0)).bind (fun y4 =>
  some y4)
set_option maxRecDepth 20000 in
theorem k_Catalog_caughtBy_b5 {l : Launch} {X : zX} (hl : l.stackTraces = false) {h : zH} {v1 : Int32} {v2 : Int64} {v4 : Int32} : zGl l m_Catalog_caughtBy X 0 0 (f_Catalog_caughtBy_b5 h v1 v2 v4) (5, [some (zr (some (1, 74))), some (zi v1), some (zl v2), none, some (zi v4)], [], h) (Sum.elim (fun s : Int64 × Int32 => .inl (5, [some (zr (some (1, 74))), some (zi v1), some (zl s.1), none, some (zi s.2)], [], h)) (fun y : Int64 => .inl (37, [none, none, some (zl y), none, none], [], h))) := by
  unfold f_Catalog_caughtBy_b5
  refine zG_run t_Catalog [(.iload 4, 0, 0), (.aload_n 0, 0, 0), (.getfield 52, 1, 0)] (11, [some (zr (some (1, 74))), some (zi v1), some (zl v2), none, some (zi v4)], [zi (h.1 74 0), zi v4], h) (by decide +kernel) rfl ?_
  refine zG_icmp (op := .ge) (off := 26) (tgt := 37) (by decide +kernel) rfl Iff.rfl (fun c2 => ?_) (fun c2 => ?_)
  · exact zG_end (L' := [none, none, some (zl v2), none, none]) rfl (And.intro rfl trivial)
  · refine zG_run t_Catalog [(.lload_n 2, 0, 0), (.aload_n 0, 0, 0), (.getfield 16, 1, 5), (.iload 4, 0, 0)] (21, [some (zr (some (1, 74))), some (zi v1), some (zl v2), none, some (zi v4)], [zi v4, zr (some (34, 121)), zl v2], h) (by decide +kernel) rfl ?_
    refine zG_ald (v := zl (h.2.1 121 v4.toNatClampNeg)) (n := 44) rfl (by decide +kernel) rfl rfl fun hb1 => ?_
    refine zG_run t_Catalog [(.iload_n 1, 0, 0), (.lushr, 0, 0), (.lconst 1, 0, 0), (.land, 0, 0), (.iload 4, 0, 0), (.lshl, 0, 0), (.lor, 0, 0), (.lstore_n 2, 0, 0), (.iinc 4 1, 0, 0), (.goto (-29), 0, 0)] (5, [some (zr (some (1, 74))), some (zi v1), some (zl (v2 ||| (zlshl ((zlushr (h.2.1 121 v4.toNatClampNeg) v1) &&& 1) v4))), none, some (zi (v4 + 1))], [], h) (by decide +kernel) rfl ?_
    exact zG_end (L' := [some (zr (some (1, 74))), some (zi v1), some (zl (v2 ||| (zlshl ((zlushr (h.2.1 121 v4.toNatClampNeg) v1) &&& 1) v4))), none, some (zi (v4 + 1))]) rfl (And.intro rfl (And.intro rfl (And.intro rfl (And.intro rfl trivial))))
set_option maxRecDepth 20000 in
theorem k_Catalog_caughtBy {l : Launch} {X : zX} (hl : l.stackTraces = false) {h : zH} {v1 : Int32} : zGl l m_Catalog_caughtBy X 0 0 (f_Catalog_caughtBy h v1) (0, [some (zr (some (1, 74))), some (zi v1), none, none, none], [], h) (fun x => .inr ((fun a => (.inl (some (zl a)), h) : Int64 → zF) x)) := by
  unfold f_Catalog_caughtBy
  refine zG_run t_Catalog [(.lconst 0, 0, 0), (.lstore_n 2, 0, 0), (.iconst 0, 0, 0), (.istore 4, 0, 0)] (5, [some (zr (some (1, 74))), some (zi v1), some (zl 0), none, some (zi 0)], [], h) (by decide +kernel) rfl ?_
  refine zG_forget (L' := [some (zr (some (1, 74))), some (zi v1), some (zl 0), none, some (zi 0)]) (And.intro rfl (And.intro rfl (And.intro rfl (And.intro rfl trivial)))) ?_
  refine zG_bind (fun y : Int64 => (37, [none, none, some (zl y), none, none], [], h)) (zG_iter (fun s : Int64 × Int32 => (5, [some (zr (some (1, 74))), some (zi v1), some (zl s.1), none, some (zi s.2)], [], h)) fun s => k_Catalog_caughtBy_b5 hl) (fun y4 => ?_)
  refine zG_run t_Catalog [(.lload_n 2, 0, 0)] (38, [none, none, some (zl y4), none, none], [zl y4], h) (by decide +kernel) rfl ?_
  exact zG_ret (r := some (zl y4)) rfl (zrd_l rfl (by decide +kernel))
theorem c_Catalog_caughtBy {l : Launch} {X : zX} (hl : l.stackTraces = false) {h : zH} {v1 : Int32} {x : Int64} (hx : f_Catalog_caughtBy h v1 = some x) : zCt l (true, 2) 2 m_Catalog_caughtBy X 0 0 [zr (some (1, 74)), zi v1] h ((fun a => (.inl (some (zl a)), h) : Int64 → zF) x) :=
  zG_ct (R := fun a => (.inl (some (zl a)), h)) (x := x) ok_Catalog_caughtBy hl (Nat.le_of_ble_eq_true rfl) hx (k_Catalog_caughtBy hl)
def m_Program_build : zM := (({ cls := "ScanPacker$Program", name := "build", desc := "(LScanPacker$Net;LScanPacker$Catalog;JI)V" } : Jvm.MethodName), prog_7_method_2_code, 11, (Option.none : Option Jvm.ClassFile.FieldType), [], 5)
theorem ok_Program_build : zMok m_Program_build := ⟨by decide +kernel, zW_of 1118 (by decide +kernel) (by decide +kernel), zW_of 128 (by decide +kernel) (by decide +kernel), by decide, by decide +kernel, by decide +kernel⟩
def f_Program_build_b59 (o1 : Nat) (h : zH) (v5 : Int32) (v6 : Int64) : Option ((Int64 × zH) ⊕ (zH)) :=
  if v6 = 0 then (
  some (.inr h)) else (
  if 44 ≤ (h.1 137 3) then (
    some (.inr h)) else (
    (f_Program_mergeCubes h v6).bind fun x5 =>
      zg (zb (h.1 137 3) 44) <|
      (some (zsI x5.2 140 (h.1 137 3).toNatClampNeg x5.1)).bind fun h6 =>
      (f_Program_fillUp o1 h6 v5).bind fun x8 =>
      (f_Catalog_caughtBy h6 x8).bind fun x9 =>
      zg (zb (h6.1 137 3) 44) <|
      (some (zsI h6 138 (h6.1 137 3).toNatClampNeg x8)).bind fun h10 =>
      (f_Long_bitCount (x9 &&& v6)).bind fun x12 =>
      zg (zb (h10.1 137 3) 44) <|
      (some (zsI h10 139 (h10.1 137 3).toNatClampNeg x12)).bind fun h13 =>
      (some (zsI h13 137 3 ((h13.1 137 3) + 1))).bind fun h15 =>
      some (.inl ((v6 &&& ((x9 &&& v6) ^^^ (-1))), h15))))
def f_Program_build_j26 (o1 : Nat) (h : zH) (v3 : Int64) (v5 : Int32) : Option (zH) :=
  (some (zsI h 137 4 1)).bind fun h1 =>
  (some (zsL h1 137 5 v3)).bind fun h2 =>
  (some (zsI h2 137 6 v5)).bind fun h3 =>
  (some (zsI h3 137 3 0)).bind fun h4 =>
  (zit zFU (fun s : Int64 × zH => f_Program_build_b59 o1 s.2 v5 s.1) (((h4.2.1 74 3) &&& (v3 ^^^ (-1))), h4)).bind (fun y19 =>
  some y19)
def f_Program_build (o1 : Nat) (h : zH) (v3 : Int64) (v5 : Int32) : Option (zH) :=
  if (h.1 137 4) = 0 then (
  f_Program_build_j26 o1 h v3 v5) else (
  if ¬ (h.2.1 137 5) = v3 then (
    f_Program_build_j26 o1 h v3 v5) else (
    if ¬ (h.1 137 6) = v5 then (
      f_Program_build_j26 o1 h v3 v5) else (
      some h)))
set_option maxRecDepth 20000 in
theorem k_Program_build_b59 {l : Launch} {X : zX} (hl : l.stackTraces = false) {o1 : Nat} {h : zH} {v5 : Int32} {v6 : Int64} : zGl l m_Program_build X 0 0 (f_Program_build_b59 o1 h v5 v6) (59, [some (zr (some (6, 137))), some (zr (some (3, o1))), some (zr (some (1, 74))), none, none, some (zi v5), some (zl v6), none, none, none, none], [], h) (Sum.elim (fun s : Int64 × zH => .inl (59, [some (zr (some (6, 137))), some (zr (some (3, o1))), some (zr (some (1, 74))), none, none, some (zi v5), some (zl s.1), none, none, none, none], [], s.2)) (fun y : zH => .inl (160, [none, none, none, none, none, none, none, none, none, none, none], [], y))) := by
  unfold f_Program_build_b59
  refine zG_run t_Program [(.lload 6, 0, 0), (.lconst 0, 0, 0), (.lcmp, 0, 0)] (63, [some (zr (some (6, 137))), some (zr (some (3, o1))), some (zr (some (1, 74))), none, none, some (zi v5), some (zl v6), none, none, none, none], [zi (lg_cmp v6 0)], h) (by decide +kernel) rfl ?_
  refine zG_if (op := .eq) (off := 97) (tgt := 160) (by decide +kernel) rfl zcmp0 (fun c17 => ?_) (fun c17 => ?_)
  · exact zG_end (L' := [none, none, none, none, none, none, none, none, none, none, none]) rfl (trivial)
  · refine zG_run t_Program [(.aload_n 0, 0, 0), (.getfield 44, 6, 3), (.bipush 44, 0, 0)] (72, [some (zr (some (6, 137))), some (zr (some (3, o1))), some (zr (some (1, 74))), none, none, some (zi v5), some (zl v6), none, none, none, none], [zi 44, zi (h.1 137 3)], h) (by decide +kernel) rfl ?_
    refine zG_icmp (op := .ge) (off := 88) (tgt := 160) (by decide +kernel) rfl Iff.rfl (fun c16 => ?_) (fun c16 => ?_)
    · exact zG_end (L' := [none, none, none, none, none, none, none, none, none, none, none]) rfl (trivial)
    · refine zG_run t_Program [(.aload_n 0, 0, 0), (.getfield 18, 6, 2), (.aload_n 0, 0, 0), (.getfield 44, 6, 3), (.aload_n 0, 0, 0), (.aload_n 2, 0, 0), (.lload 6, 0, 0)] (87, [some (zr (some (6, 137))), some (zr (some (3, o1))), some (zr (some (1, 74))), none, none, some (zi v5), some (zl v6), none, none, none, none], [zl v6, zr (some (1, 74)), zr (some (6, 137)), zi (h.1 137 3), zr (some (46, 140))], h) (by decide +kernel) rfl ?_
      refine zG_callV (idx := 54) (R := (fun a => (some (zi a.1), a.2))) (as := [zr (some (1, 74)), zl v6]) (rest := [zi (h.1 137 3), zr (some (46, 140))]) (n := 2) (fun a ha => c_Program_mergeCubes hl ha) (by decide +kernel) ⟨ok_Program_mergeCubes, by decide, by decide +kernel⟩ rfl w_184 w_185 w_186 (by decide) rfl rfl rfl (Nat.le_of_ble_eq_true rfl) fun x5 => ?_
      refine zG_guard fun hb7 => ?_
      refine zG_bind (fun y => (91, [some (zr (some (6, 137))), some (zr (some (3, o1))), some (zr (some (1, 74))), none, none, some (zi v5), some (zl v6), none, none, none, none], [], y)) (zG_astc (h' := zsI x5.2 140 (h.1 137 3).toNatClampNeg x5.1) rfl (by decide +kernel) hb7 rfl (zG_end (L' := [some (zr (some (6, 137))), some (zr (some (3, o1))), some (zr (some (1, 74))), none, none, some (zi v5), some (zl v6), none, none, none, none]) rfl (And.intro rfl (And.intro rfl (And.intro rfl (And.intro rfl (And.intro rfl trivial))))))) fun h6 => ?_
      refine zG_run t_Program [(.aload_n 0, 0, 0), (.aload_n 1, 0, 0), (.iload 5, 0, 0)] (95, [some (zr (some (6, 137))), some (zr (some (3, o1))), some (zr (some (1, 74))), none, none, some (zi v5), some (zl v6), none, none, none, none], [zi v5, zr (some (3, o1)), zr (some (6, 137))], h6) (by decide +kernel) rfl ?_
      refine zG_callV (idx := 58) (R := (fun a => (some (zi a), h6))) (as := [zr (some (3, o1)), zi v5]) (rest := []) (n := 2) (fun a ha => c_Program_fillUp hl ha) (by decide +kernel) ⟨ok_Program_fillUp, by decide, by decide +kernel⟩ rfl w_194 w_195 w_196 (by decide) rfl rfl rfl (Nat.le_of_ble_eq_true rfl) fun x8 => ?_
      refine zG_run t_Program [(.istore 8, 0, 0), (.aload_n 2, 0, 0), (.iload 8, 0, 0)] (103, [some (zr (some (6, 137))), some (zr (some (3, o1))), some (zr (some (1, 74))), none, none, some (zi v5), some (zl v6), none, some (zi x8), none, none], [zi x8, zr (some (1, 74))], h6) (by decide +kernel) rfl ?_
      refine zG_callV (idx := 62) (R := (fun a => (some (zl a), h6))) (as := [zi x8]) (rest := []) (n := 1) (fun a ha => c_Catalog_caughtBy hl ha) (by decide +kernel) ⟨ok_Catalog_caughtBy, by decide, by decide +kernel⟩ rfl w_197 w_198 w_199 (by decide) rfl rfl rfl (Nat.le_of_ble_eq_true rfl) fun x9 => ?_
      refine zG_run t_Program [(.lload 6, 0, 0), (.land, 0, 0), (.lstore 9, 0, 0), (.aload_n 0, 0, 0), (.getfield 9, 6, 0), (.aload_n 0, 0, 0), (.getfield 44, 6, 3), (.iload 8, 0, 0)] (121, [some (zr (some (6, 137))), some (zr (some (3, o1))), some (zr (some (1, 74))), none, none, some (zi v5), some (zl v6), none, some (zi x8), some (zl (x9 &&& v6)), none], [zi x8, zi (h6.1 137 3), zr (some (44, 138))], h6) (by decide +kernel) rfl ?_
      refine zG_guard fun hb11 => ?_
      refine zG_bind (fun y => (122, [some (zr (some (6, 137))), some (zr (some (3, o1))), some (zr (some (1, 74))), none, none, some (zi v5), some (zl v6), none, some (zi x8), some (zl (x9 &&& v6)), none], [], y)) (zG_astc (h' := zsI h6 138 (h6.1 137 3).toNatClampNeg x8) rfl (by decide +kernel) hb11 rfl (zG_end (L' := [some (zr (some (6, 137))), some (zr (some (3, o1))), some (zr (some (1, 74))), none, none, some (zi v5), some (zl v6), none, some (zi x8), some (zl (x9 &&& v6)), none]) rfl (And.intro rfl (And.intro rfl (And.intro rfl (And.intro rfl (And.intro rfl (And.intro rfl (And.intro rfl trivial))))))))) fun h10 => ?_
      refine zG_run t_Program [(.aload_n 0, 0, 0), (.getfield 15, 6, 1), (.aload_n 0, 0, 0), (.getfield 44, 6, 3), (.lload 9, 0, 0)] (132, [some (zr (some (6, 137))), some (zr (some (3, o1))), some (zr (some (1, 74))), none, none, some (zi v5), some (zl v6), none, some (zi x8), some (zl (x9 &&& v6)), none], [zl (x9 &&& v6), zi (h10.1 137 3), zr (some (45, 139))], h10) (by decide +kernel) rfl ?_
      refine zG_callS (idx := 66) (R := (fun a => (some (zi a), h10))) (as := [zl (x9 &&& v6)]) (rest := [zi (h10.1 137 3), zr (some (45, 139))]) (n := 1) (fun a ha => c_Long_bitCount hl ha) (by decide +kernel) ⟨ok_Long_bitCount, by decide, by decide +kernel⟩ rfl w_200 w_182 rfl rfl (Nat.le_of_ble_eq_true rfl) fun x12 => ?_
      refine zG_guard fun hb14 => ?_
      refine zG_bind (fun y => (136, [some (zr (some (6, 137))), some (zr (some (3, o1))), some (zr (some (1, 74))), none, none, some (zi v5), some (zl v6), none, some (zi x8), some (zl (x9 &&& v6)), none], [], y)) (zG_astc (h' := zsI h10 139 (h10.1 137 3).toNatClampNeg x12) rfl (by decide +kernel) hb14 rfl (zG_end (L' := [some (zr (some (6, 137))), some (zr (some (3, o1))), some (zr (some (1, 74))), none, none, some (zi v5), some (zl v6), none, some (zi x8), some (zl (x9 &&& v6)), none]) rfl (And.intro rfl (And.intro rfl (And.intro rfl (And.intro rfl (And.intro rfl (And.intro rfl (And.intro rfl trivial))))))))) fun h13 => ?_
      refine zG_run t_Program [(.lload 6, 0, 0), (.lload 9, 0, 0)] (140, [some (zr (some (6, 137))), some (zr (some (3, o1))), some (zr (some (1, 74))), none, none, some (zi v5), some (zl v6), none, some (zi x8), some (zl (x9 &&& v6)), none], [zl (x9 &&& v6), zl v6], h13) (by decide +kernel) rfl ?_
      refine zG_ldc2 (v := (-1)) (by decide +kernel) w_183 ?_
      refine zG_bind (fun y => (157, [some (zr (some (6, 137))), some (zr (some (3, o1))), some (zr (some (1, 74))), none, none, some (zi v5), some (zl (v6 &&& ((x9 &&& v6) ^^^ (-1)))), none, some (zi x8), some (zl (x9 &&& v6)), none], [], y)) (zG_run t_Program [(.lxor, 0, 0), (.land, 0, 0), (.lstore 6, 0, 0), (.aload_n 0, 0, 0), (.dup, 0, 0), (.getfield 44, 6, 3), (.iconst 1, 0, 0), (.iadd, 0, 0), (.putfield 44, 6, 3)] (157, [some (zr (some (6, 137))), some (zr (some (3, o1))), some (zr (some (1, 74))), none, none, some (zi v5), some (zl (v6 &&& ((x9 &&& v6) ^^^ (-1)))), none, some (zi x8), some (zl (x9 &&& v6)), none], [], zsI h13 137 3 ((h13.1 137 3) + 1)) (by decide +kernel) rfl (zG_end (L' := [some (zr (some (6, 137))), some (zr (some (3, o1))), some (zr (some (1, 74))), none, none, some (zi v5), some (zl (v6 &&& ((x9 &&& v6) ^^^ (-1)))), none, some (zi x8), some (zl (x9 &&& v6)), none]) rfl (And.intro rfl (And.intro rfl (And.intro rfl (And.intro rfl (And.intro rfl (And.intro rfl (And.intro rfl trivial))))))))) fun h15 => ?_
      refine zG_run t_Program [(.goto (-98), 0, 0)] (59, [some (zr (some (6, 137))), some (zr (some (3, o1))), some (zr (some (1, 74))), none, none, some (zi v5), some (zl (v6 &&& ((x9 &&& v6) ^^^ (-1)))), none, some (zi x8), some (zl (x9 &&& v6)), none], [], h15) (by decide +kernel) rfl ?_
      exact zG_end (L' := [some (zr (some (6, 137))), some (zr (some (3, o1))), some (zr (some (1, 74))), none, none, some (zi v5), some (zl (v6 &&& ((x9 &&& v6) ^^^ (-1)))), none, none, none, none]) rfl (And.intro rfl (And.intro rfl (And.intro rfl (And.intro rfl (And.intro rfl trivial)))))
set_option maxRecDepth 20000 in
theorem k_Program_build_j26 {l : Launch} {X : zX} (hl : l.stackTraces = false) {o1 : Nat} {h : zH} {v3 : Int64} {v5 : Int32} : zGl l m_Program_build X 0 0 (f_Program_build_j26 o1 h v3 v5) (26, [some (zr (some (6, 137))), some (zr (some (3, o1))), some (zr (some (1, 74))), some (zl v3), none, some (zi v5), none, none, none, none, none], [], h) (fun x => .inr ((fun a => (.inl none, a) : zH → zF) x)) := by
  unfold f_Program_build_j26
  refine zG_bind (fun y => (31, [some (zr (some (6, 137))), some (zr (some (3, o1))), some (zr (some (1, 74))), some (zl v3), none, some (zi v5), none, none, none, none, none], [], y)) (zG_run t_Program [(.aload_n 0, 0, 0), (.iconst 1, 0, 0), (.putfield 32, 6, 4)] (31, [some (zr (some (6, 137))), some (zr (some (3, o1))), some (zr (some (1, 74))), some (zl v3), none, some (zi v5), none, none, none, none, none], [], zsI h 137 4 1) (by decide +kernel) rfl (zG_end (L' := [some (zr (some (6, 137))), some (zr (some (3, o1))), some (zr (some (1, 74))), some (zl v3), none, some (zi v5), none, none, none, none, none]) rfl (And.intro rfl (And.intro rfl (And.intro rfl (And.intro rfl (And.intro rfl trivial))))))) fun h1 => ?_
  refine zG_bind (fun y => (36, [some (zr (some (6, 137))), some (zr (some (3, o1))), some (zr (some (1, 74))), some (zl v3), none, some (zi v5), none, none, none, none, none], [], y)) (zG_run t_Program [(.aload_n 0, 0, 0), (.lload_n 3, 0, 0), (.putfield 36, 6, 5)] (36, [some (zr (some (6, 137))), some (zr (some (3, o1))), some (zr (some (1, 74))), some (zl v3), none, some (zi v5), none, none, none, none, none], [], zsL h1 137 5 v3) (by decide +kernel) rfl (zG_end (L' := [some (zr (some (6, 137))), some (zr (some (3, o1))), some (zr (some (1, 74))), some (zl v3), none, some (zi v5), none, none, none, none, none]) rfl (And.intro rfl (And.intro rfl (And.intro rfl (And.intro rfl (And.intro rfl trivial))))))) fun h2 => ?_
  refine zG_bind (fun y => (42, [some (zr (some (6, 137))), some (zr (some (3, o1))), some (zr (some (1, 74))), some (zl v3), none, some (zi v5), none, none, none, none, none], [], y)) (zG_run t_Program [(.aload_n 0, 0, 0), (.iload 5, 0, 0), (.putfield 40, 6, 6)] (42, [some (zr (some (6, 137))), some (zr (some (3, o1))), some (zr (some (1, 74))), some (zl v3), none, some (zi v5), none, none, none, none, none], [], zsI h2 137 6 v5) (by decide +kernel) rfl (zG_end (L' := [some (zr (some (6, 137))), some (zr (some (3, o1))), some (zr (some (1, 74))), some (zl v3), none, some (zi v5), none, none, none, none, none]) rfl (And.intro rfl (And.intro rfl (And.intro rfl (And.intro rfl (And.intro rfl trivial))))))) fun h3 => ?_
  refine zG_bind (fun y => (47, [some (zr (some (6, 137))), some (zr (some (3, o1))), some (zr (some (1, 74))), some (zl v3), none, some (zi v5), none, none, none, none, none], [], y)) (zG_run t_Program [(.aload_n 0, 0, 0), (.iconst 0, 0, 0), (.putfield 44, 6, 3)] (47, [some (zr (some (6, 137))), some (zr (some (3, o1))), some (zr (some (1, 74))), some (zl v3), none, some (zi v5), none, none, none, none, none], [], zsI h3 137 3 0) (by decide +kernel) rfl (zG_end (L' := [some (zr (some (6, 137))), some (zr (some (3, o1))), some (zr (some (1, 74))), some (zl v3), none, some (zi v5), none, none, none, none, none]) rfl (And.intro rfl (And.intro rfl (And.intro rfl (And.intro rfl (And.intro rfl trivial))))))) fun h4 => ?_
  refine zG_run t_Program [(.aload_n 2, 0, 0), (.getfield 47, 1, 3), (.lload_n 3, 0, 0)] (52, [some (zr (some (6, 137))), some (zr (some (3, o1))), some (zr (some (1, 74))), some (zl v3), none, some (zi v5), none, none, none, none, none], [zl v3, zl (h4.2.1 74 3)], h4) (by decide +kernel) rfl ?_
  refine zG_ldc2 (v := (-1)) (by decide +kernel) w_183 ?_
  refine zG_run t_Program [(.lxor, 0, 0), (.land, 0, 0), (.lstore 6, 0, 0)] (59, [some (zr (some (6, 137))), some (zr (some (3, o1))), some (zr (some (1, 74))), some (zl v3), none, some (zi v5), some (zl ((h4.2.1 74 3) &&& (v3 ^^^ (-1)))), none, none, none, none], [], h4) (by decide +kernel) rfl ?_
  refine zG_forget (L' := [some (zr (some (6, 137))), some (zr (some (3, o1))), some (zr (some (1, 74))), none, none, some (zi v5), some (zl ((h4.2.1 74 3) &&& (v3 ^^^ (-1)))), none, none, none, none]) (And.intro rfl (And.intro rfl (And.intro rfl (And.intro rfl (And.intro rfl trivial))))) ?_
  refine zG_bind (fun y : zH => (160, [none, none, none, none, none, none, none, none, none, none, none], [], y)) (zG_iter (fun s : Int64 × zH => (59, [some (zr (some (6, 137))), some (zr (some (3, o1))), some (zr (some (1, 74))), none, none, some (zi v5), some (zl s.1), none, none, none, none], [], s.2)) fun s => k_Program_build_b59 hl) (fun y19 => ?_)
  exact zG_ret (r := none) rfl (zrd_v rfl (by decide +kernel))
set_option maxRecDepth 20000 in
theorem k_Program_build {l : Launch} {X : zX} (hl : l.stackTraces = false) {o1 : Nat} {h : zH} {v3 : Int64} {v5 : Int32} : zGl l m_Program_build X 0 0 (f_Program_build o1 h v3 v5) (0, [some (zr (some (6, 137))), some (zr (some (3, o1))), some (zr (some (1, 74))), some (zl v3), none, some (zi v5), none, none, none, none, none], [], h) (fun x => .inr ((fun a => (.inl none, a) : zH → zF) x)) := by
  unfold f_Program_build
  refine zG_run t_Program [(.aload_n 0, 0, 0), (.getfield 32, 6, 4)] (4, [some (zr (some (6, 137))), some (zr (some (3, o1))), some (zr (some (1, 74))), some (zl v3), none, some (zi v5), none, none, none, none, none], [zi (h.1 137 4)], h) (by decide +kernel) rfl ?_
  refine zG_if (op := .eq) (off := 22) (tgt := 26) (by decide +kernel) rfl Iff.rfl (fun c22 => ?_) (fun c22 => ?_)
  · exact zG_forget (L' := [some (zr (some (6, 137))), some (zr (some (3, o1))), some (zr (some (1, 74))), some (zl v3), none, some (zi v5), none, none, none, none, none]) (And.intro rfl (And.intro rfl (And.intro rfl (And.intro rfl (And.intro rfl trivial))))) (k_Program_build_j26 hl)
  · refine zG_run t_Program [(.aload_n 0, 0, 0), (.getfield 36, 6, 5), (.lload_n 3, 0, 0), (.lcmp, 0, 0)] (13, [some (zr (some (6, 137))), some (zr (some (3, o1))), some (zr (some (1, 74))), some (zl v3), none, some (zi v5), none, none, none, none, none], [zi (lg_cmp (h.2.1 137 5) v3)], h) (by decide +kernel) rfl ?_
    refine zG_if (op := .ne) (off := 13) (tgt := 26) (by decide +kernel) rfl (not_congr zcmp0) (fun c21 => ?_) (fun c21 => ?_)
    · exact zG_forget (L' := [some (zr (some (6, 137))), some (zr (some (3, o1))), some (zr (some (1, 74))), some (zl v3), none, some (zi v5), none, none, none, none, none]) (And.intro rfl (And.intro rfl (And.intro rfl (And.intro rfl (And.intro rfl trivial))))) (k_Program_build_j26 hl)
    · refine zG_run t_Program [(.aload_n 0, 0, 0), (.getfield 40, 6, 6), (.iload 5, 0, 0)] (22, [some (zr (some (6, 137))), some (zr (some (3, o1))), some (zr (some (1, 74))), some (zl v3), none, some (zi v5), none, none, none, none, none], [zi v5, zi (h.1 137 6)], h) (by decide +kernel) rfl ?_
      refine zG_icmp (op := .ne) (off := 4) (tgt := 26) (by decide +kernel) rfl Iff.rfl (fun c20 => ?_) (fun c20 => ?_)
      · exact zG_forget (L' := [some (zr (some (6, 137))), some (zr (some (3, o1))), some (zr (some (1, 74))), some (zl v3), none, some (zi v5), none, none, none, none, none]) (And.intro rfl (And.intro rfl (And.intro rfl (And.intro rfl (And.intro rfl trivial))))) (k_Program_build_j26 hl)
      · exact zG_ret (r := none) rfl (zrd_v rfl (by decide +kernel))
theorem c_Program_build {l : Launch} {X : zX} (hl : l.stackTraces = false) {o1 : Nat} {h : zH} {v3 : Int64} {v5 : Int32} {x : zH} (hx : f_Program_build o1 h v3 v5 = some x) : zCt l (true, 2) 2 m_Program_build X 0 0 [zr (some (6, 137)), zr (some (3, o1)), zr (some (1, 74)), zl v3, zi v5] h ((fun a => (.inl none, a) : zH → zF) x) :=
  zG_ct (R := fun a => (.inl none, a)) (x := x) ok_Program_build hl (Nat.le_of_ble_eq_true rfl) hx (k_Program_build hl)
def m_Main_planNow : zM := (({ cls := "ScanPacker", name := "planNow", desc := "()V" } : Jvm.MethodName), prog_1_method_38_code, 1, (Option.none : Option Jvm.ClassFile.FieldType), [], 6)
theorem ok_Main_planNow : zMok m_Main_planNow := ⟨by decide +kernel, zW_of 1114 (by decide +kernel) (by decide +kernel), zW_of 122 (by decide +kernel) (by decide +kernel), by decide, by decide +kernel, by decide +kernel⟩
def f_Main_planNow (h : zH) : Option (zH) :=
  zgr (h.2.2.1 0 1) 3 fun w1 =>
  (f_Program_build w1 h (h.2.1 156 4) (h.1 156 3)).bind fun x2 =>
  some x2
set_option maxRecDepth 20000 in
theorem k_Main_planNow {l : Launch} {X : zX} (hl : l.stackTraces = false) {h : zH} : zGl l m_Main_planNow X 0 0 (f_Main_planNow h) (0, [some (zr (some (0, 0)))], [], h) (fun x => .inr ((fun a => (.inl none, a) : zH → zF) x)) := by
  unfold f_Main_planNow
  refine zG_run t_Main [(.aload_n 0, 0, 0), (.getfield 37, 0, 4), (.aload_n 0, 0, 0), (.getfield 19, 0, 1)] (8, [some (zr (some (0, 0)))], [zr (h.2.2.1 0 1), zr (some (6, 137))], h) (by decide +kernel) rfl ?_
  refine zG_dyn fun w1 _ => ?_
  refine zG_run t_Main [(.aload_n 0, 0, 0), (.getfield 30, 0, 3), (.aload_n 0, 0, 0), (.getfield 58, 0, 7), (.getfield 139, 7, 0), (.getfield 197, 8, 4), (.aload_n 0, 0, 0), (.getfield 58, 0, 7), (.getfield 139, 7, 0), (.getfield 298, 8, 3)] (32, [some (zr (some (0, 0)))], [zi (h.1 156 3), zl (h.2.1 156 4), zr (some (1, 74)), zr (some (3, w1)), zr (some (6, 137))], h) (by decide +kernel) rfl ?_
  refine zG_callV (idx := 397) (R := (fun a => (none, a))) (as := [zr (some (3, w1)), zr (some (1, 74)), zl (h.2.1 156 4), zi (h.1 156 3)]) (rest := []) (n := 4) (fun a ha => c_Program_build hl ha) (by decide +kernel) ⟨ok_Program_build, by decide, by decide +kernel⟩ rfl w_201 w_202 w_203 (by decide) rfl rfl rfl (Nat.le_of_ble_eq_true rfl) fun x2 => ?_
  exact zG_ret (r := none) rfl (zrd_v rfl (by decide +kernel))
theorem c_Main_planNow {l : Launch} {X : zX} (hl : l.stackTraces = false) {h : zH} {x : zH} (hx : f_Main_planNow h = some x) : zCt l (true, 2) 2 m_Main_planNow X 0 0 [zr (some (0, 0))] h ((fun a => (.inl none, a) : zH → zF) x) :=
  zG_ct (R := fun a => (.inl none, a)) (x := x) ok_Main_planNow hl (Nat.le_of_ble_eq_true rfl) hx (k_Main_planNow hl)
def m_Main_countOfMachine : zM := (({ cls := "ScanPacker", name := "countOfMachine", desc := "(I)I" } : Jvm.MethodName), prog_1_method_37_code, 2, (Option.some Jvm.ClassFile.FieldType.int), [], 7)
theorem ok_Main_countOfMachine : zMok m_Main_countOfMachine := ⟨by decide +kernel, zW_of 1110 (by decide +kernel) (by decide +kernel), zW_of 122 (by decide +kernel) (by decide +kernel), by decide, by decide +kernel, by decide +kernel⟩
def f_Main_countOfMachine (h : zH) (v1 : Int32) : Option (Int32 × zH) :=
  if v1 = 8 then (
  (f_Long_bitCount (h.2.1 156 4)).bind fun x1 =>
    some (x1, h)) else (
  if v1 = 9 then (
    some ((h.1 156 0), h)) else (
    if v1 = 10 then (
      some ((h.1 156 1), h)) else (
      if v1 = 11 then (
        some ((h.1 156 2), h)) else (
        if v1 = 12 then (
          some ((h.1 156 5), h)) else (
          if v1 = 13 then (
            (f_Main_planNow h).bind fun x7 =>
              some ((x7.1 137 3), x7)) else (
            if v1 = 14 then (
              some ((h.1 155 3), h)) else (
              if v1 = 15 then (
                some ((h.1 155 7), h)) else (
                some ((h.1 2 1), h)))))))))
set_option maxRecDepth 20000 in
theorem k_Main_countOfMachine {l : Launch} {X : zX} (hl : l.stackTraces = false) {h : zH} {v1 : Int32} : zGl l m_Main_countOfMachine X 0 0 (f_Main_countOfMachine h v1) (0, [some (zr (some (0, 0))), some (zi v1)], [], h) (fun x => .inr ((fun a => (.inl (some (zi a.1)), a.2) : Int32 × zH → zF) x)) := by
  unfold f_Main_countOfMachine
  refine zG_run t_Main [(.iload_n 1, 0, 0)] (1, [some (zr (some (0, 0))), some (zi v1)], [zi v1], h) (by decide +kernel) rfl ?_
  refine zG_case (fun c2 => ?_) (fun c2 => ?_)
  · refine zG_tin (k := 8) (off := 47) (tgt := 48) (dflt := 133) (lo := 8) (hi := 15) (offs := #[47, 61, 72, 83, 94, 105, 117, 125]) (len := 47) c2 (by decide +kernel) (by decide +kernel) ?_
    refine zG_run t_Main [(.aload_n 0, 0, 0), (.getfield 58, 0, 7), (.getfield 139, 7, 0), (.getfield 197, 8, 4)] (58, [some (zr (some (0, 0))), some (zi v1)], [zl (h.2.1 156 4)], h) (by decide +kernel) rfl ?_
    refine zG_callS (idx := 182) (R := (fun a => (some (zi a), h))) (as := [zl (h.2.1 156 4)]) (rest := []) (n := 1) (fun a ha => c_Long_bitCount hl ha) (by decide +kernel) ⟨ok_Long_bitCount, by decide, by decide +kernel⟩ rfl w_181 w_182 rfl rfl (Nat.le_of_ble_eq_true rfl) fun x1 => ?_
    exact zG_ret (r := some (zi x1)) rfl (zrd_i rfl (by decide +kernel))
  · refine zG_case (fun c3 => ?_) (fun c3 => ?_)
    · refine zG_tin (k := 9) (off := 61) (tgt := 62) (dflt := 133) (lo := 8) (hi := 15) (offs := #[47, 61, 72, 83, 94, 105, 117, 125]) (len := 47) c3 (by decide +kernel) (by decide +kernel) ?_
      refine zG_run t_Main [(.aload_n 0, 0, 0), (.getfield 58, 0, 7), (.getfield 139, 7, 0), (.getfield 145, 8, 0)] (72, [some (zr (some (0, 0))), some (zi v1)], [zi (h.1 156 0)], h) (by decide +kernel) rfl ?_
      exact zG_ret (r := some (zi (h.1 156 0))) rfl (zrd_i rfl (by decide +kernel))
    · refine zG_case (fun c4 => ?_) (fun c4 => ?_)
      · refine zG_tin (k := 10) (off := 72) (tgt := 73) (dflt := 133) (lo := 8) (hi := 15) (offs := #[47, 61, 72, 83, 94, 105, 117, 125]) (len := 47) c4 (by decide +kernel) (by decide +kernel) ?_
        refine zG_run t_Main [(.aload_n 0, 0, 0), (.getfield 58, 0, 7), (.getfield 139, 7, 0), (.getfield 356, 8, 1)] (83, [some (zr (some (0, 0))), some (zi v1)], [zi (h.1 156 1)], h) (by decide +kernel) rfl ?_
        exact zG_ret (r := some (zi (h.1 156 1))) rfl (zrd_i rfl (by decide +kernel))
      · refine zG_case (fun c5 => ?_) (fun c5 => ?_)
        · refine zG_tin (k := 11) (off := 83) (tgt := 84) (dflt := 133) (lo := 8) (hi := 15) (offs := #[47, 61, 72, 83, 94, 105, 117, 125]) (len := 47) c5 (by decide +kernel) (by decide +kernel) ?_
          refine zG_run t_Main [(.aload_n 0, 0, 0), (.getfield 58, 0, 7), (.getfield 139, 7, 0), (.getfield 142, 8, 2)] (94, [some (zr (some (0, 0))), some (zi v1)], [zi (h.1 156 2)], h) (by decide +kernel) rfl ?_
          exact zG_ret (r := some (zi (h.1 156 2))) rfl (zrd_i rfl (by decide +kernel))
        · refine zG_case (fun c6 => ?_) (fun c6 => ?_)
          · refine zG_tin (k := 12) (off := 94) (tgt := 95) (dflt := 133) (lo := 8) (hi := 15) (offs := #[47, 61, 72, 83, 94, 105, 117, 125]) (len := 47) c6 (by decide +kernel) (by decide +kernel) ?_
            refine zG_run t_Main [(.aload_n 0, 0, 0), (.getfield 58, 0, 7), (.getfield 139, 7, 0), (.getfield 250, 8, 5)] (105, [some (zr (some (0, 0))), some (zi v1)], [zi (h.1 156 5)], h) (by decide +kernel) rfl ?_
            exact zG_ret (r := some (zi (h.1 156 5))) rfl (zrd_i rfl (by decide +kernel))
          · refine zG_case (fun c8 => ?_) (fun c8 => ?_)
            · refine zG_tin (k := 13) (off := 105) (tgt := 106) (dflt := 133) (lo := 8) (hi := 15) (offs := #[47, 61, 72, 83, 94, 105, 117, 125]) (len := 47) c8 (by decide +kernel) (by decide +kernel) ?_
              refine zG_run t_Main [(.aload_n 0, 0, 0)] (107, [some (zr (some (0, 0))), some (zi v1)], [zr (some (0, 0))], h) (by decide +kernel) rfl ?_
              refine zG_callV (idx := 225) (R := (fun a => (none, a))) (as := []) (rest := []) (n := 0) (fun a ha => c_Main_planNow hl ha) (by decide +kernel) ⟨ok_Main_planNow, by decide, by decide +kernel⟩ rfl w_204 w_205 w_206 (by decide) rfl rfl rfl (Nat.le_of_ble_eq_true rfl) fun x7 => ?_
              refine zG_run t_Main [(.aload_n 0, 0, 0), (.getfield 37, 0, 4), (.getfield 228, 6, 3)] (117, [some (zr (some (0, 0))), some (zi v1)], [zi (x7.1 137 3)], x7) (by decide +kernel) rfl ?_
              exact zG_ret (r := some (zi (x7.1 137 3))) rfl (zrd_i rfl (by decide +kernel))
            · refine zG_case (fun c9 => ?_) (fun c9 => ?_)
              · refine zG_tin (k := 14) (off := 117) (tgt := 118) (dflt := 133) (lo := 8) (hi := 15) (offs := #[47, 61, 72, 83, 94, 105, 117, 125]) (len := 47) c9 (by decide +kernel) (by decide +kernel) ?_
                refine zG_run t_Main [(.aload_n 0, 0, 0), (.getfield 58, 0, 7), (.getfield 394, 7, 3)] (125, [some (zr (some (0, 0))), some (zi v1)], [zi (h.1 155 3)], h) (by decide +kernel) rfl ?_
                exact zG_ret (r := some (zi (h.1 155 3))) rfl (zrd_i rfl (by decide +kernel))
              · refine zG_case (fun c10 => ?_) (fun c10 => ?_)
                · refine zG_tin (k := 15) (off := 125) (tgt := 126) (dflt := 133) (lo := 8) (hi := 15) (offs := #[47, 61, 72, 83, 94, 105, 117, 125]) (len := 47) c10 (by decide +kernel) (by decide +kernel) ?_
                  refine zG_run t_Main [(.aload_n 0, 0, 0), (.getfield 58, 0, 7), (.getfield 316, 7, 7)] (133, [some (zr (some (0, 0))), some (zi v1)], [zi (h.1 155 7)], h) (by decide +kernel) rfl ?_
                  exact zG_ret (r := some (zi (h.1 155 7))) rfl (zrd_i rfl (by decide +kernel))
                · have e0 : Int32.toInt v1 ≠ 8 := zne (k := 8) c2
                  have e1 : Int32.toInt v1 ≠ 9 := zne (k := 9) c3
                  have e2 : Int32.toInt v1 ≠ 10 := zne (k := 10) c4
                  have e3 : Int32.toInt v1 ≠ 11 := zne (k := 11) c5
                  have e4 : Int32.toInt v1 ≠ 12 := zne (k := 12) c6
                  have e5 : Int32.toInt v1 ≠ 13 := zne (k := 13) c8
                  have e6 : Int32.toInt v1 ≠ 14 := zne (k := 14) c9
                  have e7 : Int32.toInt v1 ≠ 15 := zne (k := 15) c10
                  refine zG_tout (tgt := 134) (dflt := 133) (lo := 8) (hi := 15) (offs := #[47, 61, 72, 83, 94, 105, 117, 125]) (len := 47) (by omega) (by decide +kernel) rfl ?_
                  refine zG_run t_Main [(.aload_n 0, 0, 0), (.getfield 12, 0, 0), (.getfield 79, 5, 0), (.getfield 83, 9, 1)] (144, [some (zr (some (0, 0))), some (zi v1)], [zi (h.1 2 1)], h) (by decide +kernel) rfl ?_
                  exact zG_ret (r := some (zi (h.1 2 1))) rfl (zrd_i rfl (by decide +kernel))
theorem c_Main_countOfMachine {l : Launch} {X : zX} (hl : l.stackTraces = false) {h : zH} {v1 : Int32} {x : Int32 × zH} (hx : f_Main_countOfMachine h v1 = some x) : zCt l (true, 2) 2 m_Main_countOfMachine X 0 0 [zr (some (0, 0)), zi v1] h ((fun a => (.inl (some (zi a.1)), a.2) : Int32 × zH → zF) x) :=
  zG_ct (R := fun a => (.inl (some (zi a.1)), a.2)) (x := x) ok_Main_countOfMachine hl (Nat.le_of_ble_eq_true rfl) hx (k_Main_countOfMachine hl)
def m_Catalog_leastAlike : zM := (({ cls := "ScanPacker$Catalog", name := "leastAlike", desc := "(I)I" } : Jvm.MethodName), prog_2_method_15_code, 3, (Option.some Jvm.ClassFile.FieldType.int), [], 1)
theorem ok_Catalog_leastAlike : zMok m_Catalog_leastAlike := ⟨by decide +kernel, zW_of 1106 (by decide +kernel) (by decide +kernel), zW_of 126 (by decide +kernel) (by decide +kernel), by decide, by decide +kernel, by decide +kernel⟩
def f_Catalog_leastAlike_b2 (h : zH) (v1 : Int32) (v2 : Int32) : Option ((Int32) ⊕ ((Int32) ⊕ (Unit))) :=
  if v1 ≤ v2 then (
  some (.inr (.inr ()))) else (
  zg (zb v2 44) <|
    zg (zb v1 44) <|
    if ¬ (h.2.1 121 v2.toNatClampNeg) = (h.2.1 121 v1.toNatClampNeg) then (
    some (.inl (v2 + 1))) else (
    some (.inr (.inl v2))))
def f_Catalog_leastAlike (h : zH) (v1 : Int32) : Option (Int32) :=
  (zit zFU (fun s : Int32 => f_Catalog_leastAlike_b2 h v1 s) 0).bind (Sum.elim (fun y6 =>
  some y6) (fun y7 =>
  some v1))
set_option maxRecDepth 20000 in
theorem k_Catalog_leastAlike_b2 {l : Launch} {X : zX} (hl : l.stackTraces = false) {h : zH} {v1 : Int32} {v2 : Int32} : zGl l m_Catalog_leastAlike X 0 0 (f_Catalog_leastAlike_b2 h v1 v2) (2, [some (zr (some (1, 74))), some (zi v1), some (zi v2)], [], h) (Sum.elim (fun s : Int32 => .inl (2, [some (zr (some (1, 74))), some (zi v1), some (zi s)], [], h)) (Sum.elim (fun y : Int32 => .inl (23, [none, none, some (zi y)], [], h)) (fun y : Unit => .inl (31, [none, some (zi v1), none], [], h)))) := by
  unfold f_Catalog_leastAlike_b2
  refine zG_run t_Catalog [(.iload_n 2, 0, 0), (.iload_n 1, 0, 0)] (4, [some (zr (some (1, 74))), some (zi v1), some (zi v2)], [zi v1, zi v2], h) (by decide +kernel) rfl ?_
  refine zG_icmp (op := .ge) (off := 27) (tgt := 31) (by decide +kernel) rfl Iff.rfl (fun c4 => ?_) (fun c4 => ?_)
  · exact zG_end (L' := [none, some (zi v1), none]) rfl (And.intro rfl trivial)
  · refine zG_run t_Catalog [(.aload_n 0, 0, 0), (.getfield 16, 1, 5), (.iload_n 2, 0, 0)] (12, [some (zr (some (1, 74))), some (zi v1), some (zi v2)], [zi v2, zr (some (34, 121))], h) (by decide +kernel) rfl ?_
    refine zG_ald (v := zl (h.2.1 121 v2.toNatClampNeg)) (n := 44) rfl (by decide +kernel) rfl rfl fun hb1 => ?_
    refine zG_run t_Catalog [(.aload_n 0, 0, 0), (.getfield 16, 1, 5), (.iload_n 1, 0, 0)] (18, [some (zr (some (1, 74))), some (zi v1), some (zi v2)], [zi v1, zr (some (34, 121)), zl (h.2.1 121 v2.toNatClampNeg)], h) (by decide +kernel) rfl ?_
    refine zG_ald (v := zl (h.2.1 121 v1.toNatClampNeg)) (n := 44) rfl (by decide +kernel) rfl rfl fun hb2 => ?_
    refine zG_run t_Catalog [(.lcmp, 0, 0)] (20, [some (zr (some (1, 74))), some (zi v1), some (zi v2)], [zi (lg_cmp (h.2.1 121 v2.toNatClampNeg) (h.2.1 121 v1.toNatClampNeg))], h) (by decide +kernel) rfl ?_
    refine zG_if (op := .ne) (off := 5) (tgt := 25) (by decide +kernel) rfl (not_congr zcmp0) (fun c3 => ?_) (fun c3 => ?_)
    · refine zG_run t_Catalog [(.iinc 2 1, 0, 0), (.goto (-26), 0, 0)] (2, [some (zr (some (1, 74))), some (zi v1), some (zi (v2 + 1))], [], h) (by decide +kernel) rfl ?_
      exact zG_end (L' := [some (zr (some (1, 74))), some (zi v1), some (zi (v2 + 1))]) rfl (And.intro rfl (And.intro rfl (And.intro rfl trivial)))
    · exact zG_end (L' := [none, none, some (zi v2)]) rfl (And.intro rfl trivial)
set_option maxRecDepth 20000 in
theorem k_Catalog_leastAlike {l : Launch} {X : zX} (hl : l.stackTraces = false) {h : zH} {v1 : Int32} : zGl l m_Catalog_leastAlike X 0 0 (f_Catalog_leastAlike h v1) (0, [some (zr (some (1, 74))), some (zi v1), none], [], h) (fun x => .inr ((fun a => (.inl (some (zi a)), h) : Int32 → zF) x)) := by
  unfold f_Catalog_leastAlike
  refine zG_run t_Catalog [(.iconst 0, 0, 0), (.istore_n 2, 0, 0)] (2, [some (zr (some (1, 74))), some (zi v1), some (zi 0)], [], h) (by decide +kernel) rfl ?_
  refine zG_forget (L' := [some (zr (some (1, 74))), some (zi v1), some (zi 0)]) (And.intro rfl (And.intro rfl (And.intro rfl trivial))) ?_
  refine zG_bind2 (fun y : Int32 => (23, [none, none, some (zi y)], [], h)) (fun y : Unit => (31, [none, some (zi v1), none], [], h)) (zG_iter (fun s : Int32 => (2, [some (zr (some (1, 74))), some (zi v1), some (zi s)], [], h)) fun s => k_Catalog_leastAlike_b2 hl) (fun y6 => ?_) (fun y7 => ?_)
  · refine zG_run t_Catalog [(.iload_n 2, 0, 0)] (24, [none, none, some (zi y6)], [zi y6], h) (by decide +kernel) rfl ?_
    exact zG_ret (r := some (zi y6)) rfl (zrd_i rfl (by decide +kernel))
  · refine zG_run t_Catalog [(.iload_n 1, 0, 0)] (32, [none, some (zi v1), none], [zi v1], h) (by decide +kernel) rfl ?_
    exact zG_ret (r := some (zi v1)) rfl (zrd_i rfl (by decide +kernel))
theorem c_Catalog_leastAlike {l : Launch} {X : zX} (hl : l.stackTraces = false) {h : zH} {v1 : Int32} {x : Int32} (hx : f_Catalog_leastAlike h v1 = some x) : zCt l (true, 2) 2 m_Catalog_leastAlike X 0 0 [zr (some (1, 74)), zi v1] h ((fun a => (.inl (some (zi a)), h) : Int32 → zF) x) :=
  zG_ct (R := fun a => (.inl (some (zi a)), h)) (x := x) ok_Catalog_leastAlike hl (Nat.le_of_ble_eq_true rfl) hx (k_Catalog_leastAlike hl)
def m_Catalog_countGroups : zM := (({ cls := "ScanPacker$Catalog", name := "countGroups", desc := "()I" } : Jvm.MethodName), prog_2_method_17_code, 3, (Option.some Jvm.ClassFile.FieldType.int), [], 2)
theorem ok_Catalog_countGroups : zMok m_Catalog_countGroups := ⟨by decide +kernel, zW_of 1102 (by decide +kernel) (by decide +kernel), zW_of 126 (by decide +kernel) (by decide +kernel), by decide, by decide +kernel, by decide +kernel⟩
def f_Catalog_countGroups_b4 (h : zH) (v1 : Int32) (v2 : Int32) : Option ((Int32 × Int32) ⊕ (Int32)) :=
  if (h.1 74 0) ≤ v2 then (
  some (.inr v1)) else (
  (f_Catalog_isLost h v2).bind fun x1 =>
    if ¬ x1 = 0 then (
    some (.inl (v1, (v2 + 1)))) else (
    (f_Catalog_leastAlike h v2).bind fun x2 =>
      if ¬ x2 = v2 then (
      some (.inl (v1, (v2 + 1)))) else (
      some (.inl ((v1 + 1), (v2 + 1))))))
def f_Catalog_countGroups (h : zH) : Option (Int32) :=
  (zit zFU (fun s : Int32 × Int32 => f_Catalog_countGroups_b4 h s.1 s.2) (0, 0)).bind (fun y7 =>
  some y7)
set_option maxRecDepth 20000 in
theorem k_Catalog_countGroups_b4 {l : Launch} {X : zX} (hl : l.stackTraces = false) {h : zH} {v1 : Int32} {v2 : Int32} : zGl l m_Catalog_countGroups X 0 0 (f_Catalog_countGroups_b4 h v1 v2) (4, [some (zr (some (1, 74))), some (zi v1), some (zi v2)], [], h) (Sum.elim (fun s : Int32 × Int32 => .inl (4, [some (zr (some (1, 74))), some (zi s.1), some (zi s.2)], [], h)) (fun y : Int32 => .inl (38, [none, some (zi y), none], [], h))) := by
  unfold f_Catalog_countGroups_b4
  refine zG_run t_Catalog [(.iload_n 2, 0, 0), (.aload_n 0, 0, 0), (.getfield 52, 1, 0)] (9, [some (zr (some (1, 74))), some (zi v1), some (zi v2)], [zi (h.1 74 0), zi v2], h) (by decide +kernel) rfl ?_
  refine zG_icmp (op := .ge) (off := 29) (tgt := 38) (by decide +kernel) rfl Iff.rfl (fun c5 => ?_) (fun c5 => ?_)
  · exact zG_end (L' := [none, some (zi v1), none]) rfl (And.intro rfl trivial)
  · refine zG_run t_Catalog [(.aload_n 0, 0, 0), (.iload_n 2, 0, 0)] (14, [some (zr (some (1, 74))), some (zi v1), some (zi v2)], [zi v2, zr (some (1, 74))], h) (by decide +kernel) rfl ?_
    refine zG_callV (idx := 113) (R := (fun a => (some (zi a), h))) (as := [zi v2]) (rest := []) (n := 1) (fun a ha => c_Catalog_isLost hl ha) (by decide +kernel) ⟨ok_Catalog_isLost, by decide, by decide +kernel⟩ rfl w_143 w_144 w_145 (by decide) rfl rfl rfl (Nat.le_of_ble_eq_true rfl) fun x1 => ?_
    refine zG_if (op := .ne) (off := 15) (tgt := 32) (by decide +kernel) rfl Iff.rfl (fun c4 => ?_) (fun c4 => ?_)
    · refine zG_run t_Catalog [(.iinc 2 1, 0, 0), (.goto (-31), 0, 0)] (4, [some (zr (some (1, 74))), some (zi v1), some (zi (v2 + 1))], [], h) (by decide +kernel) rfl ?_
      exact zG_end (L' := [some (zr (some (1, 74))), some (zi v1), some (zi (v2 + 1))]) rfl (And.intro rfl (And.intro rfl (And.intro rfl trivial)))
    · refine zG_run t_Catalog [(.aload_n 0, 0, 0), (.iload_n 2, 0, 0)] (22, [some (zr (some (1, 74))), some (zi v1), some (zi v2)], [zi v2, zr (some (1, 74))], h) (by decide +kernel) rfl ?_
      refine zG_callV (idx := 120) (R := (fun a => (some (zi a), h))) (as := [zi v2]) (rest := []) (n := 1) (fun a ha => c_Catalog_leastAlike hl ha) (by decide +kernel) ⟨ok_Catalog_leastAlike, by decide, by decide +kernel⟩ rfl w_211 w_212 w_213 (by decide) rfl rfl rfl (Nat.le_of_ble_eq_true rfl) fun x2 => ?_
      refine zG_run t_Catalog [(.iload_n 2, 0, 0)] (26, [some (zr (some (1, 74))), some (zi v1), some (zi v2)], [zi v2, zi x2], h) (by decide +kernel) rfl ?_
      refine zG_icmp (op := .ne) (off := 6) (tgt := 32) (by decide +kernel) rfl Iff.rfl (fun c3 => ?_) (fun c3 => ?_)
      · refine zG_run t_Catalog [(.iinc 2 1, 0, 0), (.goto (-31), 0, 0)] (4, [some (zr (some (1, 74))), some (zi v1), some (zi (v2 + 1))], [], h) (by decide +kernel) rfl ?_
        exact zG_end (L' := [some (zr (some (1, 74))), some (zi v1), some (zi (v2 + 1))]) rfl (And.intro rfl (And.intro rfl (And.intro rfl trivial)))
      · refine zG_run t_Catalog [(.iinc 1 1, 0, 0), (.iinc 2 1, 0, 0), (.goto (-31), 0, 0)] (4, [some (zr (some (1, 74))), some (zi (v1 + 1)), some (zi (v2 + 1))], [], h) (by decide +kernel) rfl ?_
        exact zG_end (L' := [some (zr (some (1, 74))), some (zi (v1 + 1)), some (zi (v2 + 1))]) rfl (And.intro rfl (And.intro rfl (And.intro rfl trivial)))
set_option maxRecDepth 20000 in
theorem k_Catalog_countGroups {l : Launch} {X : zX} (hl : l.stackTraces = false) {h : zH} : zGl l m_Catalog_countGroups X 0 0 (f_Catalog_countGroups h) (0, [some (zr (some (1, 74))), none, none], [], h) (fun x => .inr ((fun a => (.inl (some (zi a)), h) : Int32 → zF) x)) := by
  unfold f_Catalog_countGroups
  refine zG_run t_Catalog [(.iconst 0, 0, 0), (.istore_n 1, 0, 0), (.iconst 0, 0, 0), (.istore_n 2, 0, 0)] (4, [some (zr (some (1, 74))), some (zi 0), some (zi 0)], [], h) (by decide +kernel) rfl ?_
  refine zG_forget (L' := [some (zr (some (1, 74))), some (zi 0), some (zi 0)]) (And.intro rfl (And.intro rfl (And.intro rfl trivial))) ?_
  refine zG_bind (fun y : Int32 => (38, [none, some (zi y), none], [], h)) (zG_iter (fun s : Int32 × Int32 => (4, [some (zr (some (1, 74))), some (zi s.1), some (zi s.2)], [], h)) fun s => k_Catalog_countGroups_b4 hl) (fun y7 => ?_)
  refine zG_run t_Catalog [(.iload_n 1, 0, 0)] (39, [none, some (zi y7), none], [zi y7], h) (by decide +kernel) rfl ?_
  exact zG_ret (r := some (zi y7)) rfl (zrd_i rfl (by decide +kernel))
theorem c_Catalog_countGroups {l : Launch} {X : zX} (hl : l.stackTraces = false) {h : zH} {x : Int32} (hx : f_Catalog_countGroups h = some x) : zCt l (true, 2) 2 m_Catalog_countGroups X 0 0 [zr (some (1, 74))] h ((fun a => (.inl (some (zi a)), h) : Int32 → zF) x) :=
  zG_ct (R := fun a => (.inl (some (zi a)), h)) (x := x) ok_Catalog_countGroups hl (Nat.le_of_ble_eq_true rfl) hx (k_Catalog_countGroups hl)
def m_Main_countOfNet : zM := (({ cls := "ScanPacker", name := "countOfNet", desc := "(I)I" } : Jvm.MethodName), prog_1_method_36_code, 2, (Option.some Jvm.ClassFile.FieldType.int), [], 3)
theorem ok_Main_countOfNet : zMok m_Main_countOfNet := ⟨by decide +kernel, zW_of 1096 (by decide +kernel) (by decide +kernel), zW_of 122 (by decide +kernel) (by decide +kernel), by decide, by decide +kernel, by decide +kernel⟩
def f_Main_countOfNet (h : zH) (v1 : Int32) : Option (Int32) :=
  if v1 = 0 then (
  zgr (h.2.2.1 0 1) 3 fun w1 =>
    some (h.1 w1 0)) else (
  if v1 = 1 then (
    zgr (h.2.2.1 0 1) 3 fun w3 =>
      some (h.1 w3 1)) else (
    if v1 = 2 then (
      zgr (h.2.2.1 0 1) 3 fun w5 =>
        zgr (h.2.2.1 0 1) 3 fun w6 =>
        (f_Integer_bitCount ((h.1 w5 5) ||| (h.1 w6 6))).bind fun x7 =>
        some x7) else (
      if v1 = 3 then (
        zgr (h.2.2.1 0 1) 3 fun w9 =>
          some (h.1 w9 2)) else (
        if v1 = 4 then (
          some (h.1 156 3)) else (
          if v1 = 5 then (
            some (h.1 74 0)) else (
            if v1 = 6 then (
              (f_Long_bitCount (h.2.1 74 3)).bind fun x13 =>
                some ((h.1 74 0) - x13)) else (
              (f_Catalog_countGroups h).bind fun x15 =>
                some x15)))))))
set_option maxRecDepth 20000 in
theorem k_Main_countOfNet {l : Launch} {X : zX} (hl : l.stackTraces = false) {h : zH} {v1 : Int32} : zGl l m_Main_countOfNet X 0 0 (f_Main_countOfNet h v1) (0, [some (zr (some (0, 0))), some (zi v1)], [], h) (fun x => .inr ((fun a => (.inl (some (zi a)), h) : Int32 → zF) x)) := by
  unfold f_Main_countOfNet
  refine zG_run t_Main [(.iload_n 1, 0, 0)] (1, [some (zr (some (0, 0))), some (zi v1)], [zi v1], h) (by decide +kernel) rfl ?_
  refine zG_case (fun c2 => ?_) (fun c2 => ?_)
  · refine zG_tin (k := 0) (off := 43) (tgt := 44) (dflt := 124) (lo := 0) (hi := 6) (offs := #[43, 51, 59, 78, 86, 97, 105]) (len := 43) c2 (by decide +kernel) (by decide +kernel) ?_
    refine zG_run t_Main [(.aload_n 0, 0, 0), (.getfield 19, 0, 1)] (48, [some (zr (some (0, 0))), some (zi v1)], [zr (h.2.2.1 0 1)], h) (by decide +kernel) rfl ?_
    refine zG_dyn fun w1 _ => ?_
    refine zG_run t_Main [(.getfield 152, 3, 0)] (51, [some (zr (some (0, 0))), some (zi v1)], [zi (h.1 w1 0)], h) (by decide +kernel) rfl ?_
    exact zG_ret (r := some (zi (h.1 w1 0))) rfl (zrd_i rfl (by decide +kernel))
  · refine zG_case (fun c4 => ?_) (fun c4 => ?_)
    · refine zG_tin (k := 1) (off := 51) (tgt := 52) (dflt := 124) (lo := 0) (hi := 6) (offs := #[43, 51, 59, 78, 86, 97, 105]) (len := 43) c4 (by decide +kernel) (by decide +kernel) ?_
      refine zG_run t_Main [(.aload_n 0, 0, 0), (.getfield 19, 0, 1)] (56, [some (zr (some (0, 0))), some (zi v1)], [zr (h.2.2.1 0 1)], h) (by decide +kernel) rfl ?_
      refine zG_dyn fun w3 _ => ?_
      refine zG_run t_Main [(.getfield 376, 3, 1)] (59, [some (zr (some (0, 0))), some (zi v1)], [zi (h.1 w3 1)], h) (by decide +kernel) rfl ?_
      exact zG_ret (r := some (zi (h.1 w3 1))) rfl (zrd_i rfl (by decide +kernel))
    · refine zG_case (fun c8 => ?_) (fun c8 => ?_)
      · refine zG_tin (k := 2) (off := 59) (tgt := 60) (dflt := 124) (lo := 0) (hi := 6) (offs := #[43, 51, 59, 78, 86, 97, 105]) (len := 43) c8 (by decide +kernel) (by decide +kernel) ?_
        refine zG_run t_Main [(.aload_n 0, 0, 0), (.getfield 19, 0, 1)] (64, [some (zr (some (0, 0))), some (zi v1)], [zr (h.2.2.1 0 1)], h) (by decide +kernel) rfl ?_
        refine zG_dyn fun w5 _ => ?_
        refine zG_run t_Main [(.getfield 379, 3, 5), (.aload_n 0, 0, 0), (.getfield 19, 0, 1)] (71, [some (zr (some (0, 0))), some (zi v1)], [zr (h.2.2.1 0 1), zi (h.1 w5 5)], h) (by decide +kernel) rfl ?_
        refine zG_dyn fun w6 _ => ?_
        refine zG_run t_Main [(.getfield 382, 3, 6), (.ior, 0, 0)] (75, [some (zr (some (0, 0))), some (zi v1)], [zi ((h.1 w5 5) ||| (h.1 w6 6))], h) (by decide +kernel) rfl ?_
        refine zG_callS (idx := 207) (R := (fun a => (some (zi a), h))) (as := [zi ((h.1 w5 5) ||| (h.1 w6 6))]) (rest := []) (n := 1) (fun a ha => c_Integer_bitCount hl ha) (by decide +kernel) ⟨ok_Integer_bitCount, by decide, by decide +kernel⟩ rfl w_210 w_154 rfl rfl (Nat.le_of_ble_eq_true rfl) fun x7 => ?_
        exact zG_ret (r := some (zi x7)) rfl (zrd_i rfl (by decide +kernel))
      · refine zG_case (fun c10 => ?_) (fun c10 => ?_)
        · refine zG_tin (k := 3) (off := 78) (tgt := 79) (dflt := 124) (lo := 0) (hi := 6) (offs := #[43, 51, 59, 78, 86, 97, 105]) (len := 43) c10 (by decide +kernel) (by decide +kernel) ?_
          refine zG_run t_Main [(.aload_n 0, 0, 0), (.getfield 19, 0, 1)] (83, [some (zr (some (0, 0))), some (zi v1)], [zr (h.2.2.1 0 1)], h) (by decide +kernel) rfl ?_
          refine zG_dyn fun w9 _ => ?_
          refine zG_run t_Main [(.getfield 278, 3, 2)] (86, [some (zr (some (0, 0))), some (zi v1)], [zi (h.1 w9 2)], h) (by decide +kernel) rfl ?_
          exact zG_ret (r := some (zi (h.1 w9 2))) rfl (zrd_i rfl (by decide +kernel))
        · refine zG_case (fun c11 => ?_) (fun c11 => ?_)
          · refine zG_tin (k := 4) (off := 86) (tgt := 87) (dflt := 124) (lo := 0) (hi := 6) (offs := #[43, 51, 59, 78, 86, 97, 105]) (len := 43) c11 (by decide +kernel) (by decide +kernel) ?_
            refine zG_run t_Main [(.aload_n 0, 0, 0), (.getfield 58, 0, 7), (.getfield 139, 7, 0), (.getfield 298, 8, 3)] (97, [some (zr (some (0, 0))), some (zi v1)], [zi (h.1 156 3)], h) (by decide +kernel) rfl ?_
            exact zG_ret (r := some (zi (h.1 156 3))) rfl (zrd_i rfl (by decide +kernel))
          · refine zG_case (fun c12 => ?_) (fun c12 => ?_)
            · refine zG_tin (k := 5) (off := 97) (tgt := 98) (dflt := 124) (lo := 0) (hi := 6) (offs := #[43, 51, 59, 78, 86, 97, 105]) (len := 43) c12 (by decide +kernel) (by decide +kernel) ?_
              refine zG_run t_Main [(.aload_n 0, 0, 0), (.getfield 30, 0, 3), (.getfield 385, 1, 0)] (105, [some (zr (some (0, 0))), some (zi v1)], [zi (h.1 74 0)], h) (by decide +kernel) rfl ?_
              exact zG_ret (r := some (zi (h.1 74 0))) rfl (zrd_i rfl (by decide +kernel))
            · refine zG_case (fun c14 => ?_) (fun c14 => ?_)
              · refine zG_tin (k := 6) (off := 105) (tgt := 106) (dflt := 124) (lo := 0) (hi := 6) (offs := #[43, 51, 59, 78, 86, 97, 105]) (len := 43) c14 (by decide +kernel) (by decide +kernel) ?_
                refine zG_run t_Main [(.aload_n 0, 0, 0), (.getfield 30, 0, 3), (.getfield 385, 1, 0), (.aload_n 0, 0, 0), (.getfield 30, 0, 3), (.getfield 388, 1, 3)] (120, [some (zr (some (0, 0))), some (zi v1)], [zl (h.2.1 74 3), zi (h.1 74 0)], h) (by decide +kernel) rfl ?_
                refine zG_callS (idx := 182) (R := (fun a => (some (zi a), h))) (as := [zl (h.2.1 74 3)]) (rest := [zi (h.1 74 0)]) (n := 1) (fun a ha => c_Long_bitCount hl ha) (by decide +kernel) ⟨ok_Long_bitCount, by decide, by decide +kernel⟩ rfl w_181 w_182 rfl rfl (Nat.le_of_ble_eq_true rfl) fun x13 => ?_
                refine zG_run t_Main [(.isub, 0, 0)] (124, [some (zr (some (0, 0))), some (zi v1)], [zi ((h.1 74 0) - x13)], h) (by decide +kernel) rfl ?_
                exact zG_ret (r := some (zi ((h.1 74 0) - x13))) rfl (zrd_i rfl (by decide +kernel))
              · have e0 : Int32.toInt v1 ≠ 0 := zne (k := 0) c2
                have e1 : Int32.toInt v1 ≠ 1 := zne (k := 1) c4
                have e2 : Int32.toInt v1 ≠ 2 := zne (k := 2) c8
                have e3 : Int32.toInt v1 ≠ 3 := zne (k := 3) c10
                have e4 : Int32.toInt v1 ≠ 4 := zne (k := 4) c11
                have e5 : Int32.toInt v1 ≠ 5 := zne (k := 5) c12
                have e6 : Int32.toInt v1 ≠ 6 := zne (k := 6) c14
                refine zG_tout (tgt := 125) (dflt := 124) (lo := 0) (hi := 6) (offs := #[43, 51, 59, 78, 86, 97, 105]) (len := 43) (by omega) (by decide +kernel) rfl ?_
                refine zG_run t_Main [(.aload_n 0, 0, 0), (.getfield 30, 0, 3)] (129, [some (zr (some (0, 0))), some (zi v1)], [zr (some (1, 74))], h) (by decide +kernel) rfl ?_
                refine zG_callV (idx := 391) (R := (fun a => (some (zi a), h))) (as := []) (rest := []) (n := 0) (fun a ha => c_Catalog_countGroups hl ha) (by decide +kernel) ⟨ok_Catalog_countGroups, by decide, by decide +kernel⟩ rfl w_214 w_215 w_216 (by decide) rfl rfl rfl (Nat.le_of_ble_eq_true rfl) fun x15 => ?_
                exact zG_ret (r := some (zi x15)) rfl (zrd_i rfl (by decide +kernel))
theorem c_Main_countOfNet {l : Launch} {X : zX} (hl : l.stackTraces = false) {h : zH} {v1 : Int32} {x : Int32} (hx : f_Main_countOfNet h v1 = some x) : zCt l (true, 2) 2 m_Main_countOfNet X 0 0 [zr (some (0, 0)), zi v1] h ((fun a => (.inl (some (zi a)), h) : Int32 → zF) x) :=
  zG_ct (R := fun a => (.inl (some (zi a)), h)) (x := x) ok_Main_countOfNet hl (Nat.le_of_ble_eq_true rfl) hx (k_Main_countOfNet hl)
def m_Main_count : zM := (({ cls := "ScanPacker", name := "count", desc := "(I)I" } : Jvm.MethodName), prog_1_method_5_code, 2, (Option.some Jvm.ClassFile.FieldType.int), [], 8)
theorem ok_Main_count : zMok m_Main_count := ⟨by decide +kernel, zW_of 1077 (by decide +kernel) (by decide +kernel), zW_of 122 (by decide +kernel) (by decide +kernel), by decide, by decide +kernel, by decide +kernel⟩
def f_Main_count_j10 (h : zH) : Option ((Int32 × zH) ⊕ (Nat × zH)) :=
  some (.inr (1, h))
def f_Main_count (h : zH) (v1 : Int32) : Option ((Int32 × zH) ⊕ (Nat × zH)) :=
  if v1 < 0 then (
  f_Main_count_j10 h) else (
  if v1 ≤ 19 then (
    if 7 < v1 then (
      if v1 < 17 then (
        (f_Main_countOfMachine h v1).bind fun x1 =>
          some (.inl (x1.1, x1.2))) else (
        zg (zb (v1 - 17) 3) <|
          some (.inl ((h.1 162 (v1 - 17).toNatClampNeg), h)))) else (
      (f_Main_countOfNet h v1).bind fun x4 =>
        some (.inl (x4, h)))) else (
    f_Main_count_j10 h))
set_option maxRecDepth 20000 in
theorem k_Main_count_j10 {l : Launch} {X : zX} (hl : l.stackTraces = false) {h : zH} : zGl l m_Main_count X 1 6 (f_Main_count_j10 h) (10, [none, none], [], h) (fun x => .inr ((Sum.elim (fun a => (.inl (some (zi a.1)), a.2)) (fun q => (.inr q.1, q.2)) : (Int32 × zH) ⊕ (Nat × zH) → zF) x)) := by
  unfold f_Main_count_j10
  refine zG_mono (bc' := 0 + 1) (bs' := 0 + 6) (by decide) (by decide) ?_
  exact zG_throw (k := 1) (ik := 109) (ic := 111) rfl (Or.inl rfl) (by decide +kernel) (by decide +kernel) (by decide +kernel) (by decide +kernel) w_176 w_177 (by decide +kernel) (by decide +kernel) (Nat.le_of_ble_eq_true rfl) (by decide) rfl
set_option maxRecDepth 20000 in
theorem k_Main_count {l : Launch} {X : zX} (hl : l.stackTraces = false) {h : zH} {v1 : Int32} : zGl l m_Main_count X 1 6 (f_Main_count h v1) (0, [some (zr (some (0, 0))), some (zi v1)], [], h) (fun x => .inr ((Sum.elim (fun a => (.inl (some (zi a.1)), a.2)) (fun q => (.inr q.1, q.2)) : (Int32 × zH) ⊕ (Nat × zH) → zF) x)) := by
  unfold f_Main_count
  refine zG_run t_Main [(.iload_n 1, 0, 0)] (1, [some (zr (some (0, 0))), some (zi v1)], [zi v1], h) (by decide +kernel) rfl ?_
  refine zG_if (op := .lt) (off := 9) (tgt := 10) (by decide +kernel) rfl Iff.rfl (fun c7 => ?_) (fun c7 => ?_)
  · refine zG_mono (bc' := 1) (bs' := 6) (by decide) (by decide) ?_
    exact zG_forget (L' := [none, none]) (trivial) (k_Main_count_j10 hl)
  · refine zG_run t_Main [(.iload_n 1, 0, 0), (.bipush 19, 0, 0)] (7, [some (zr (some (0, 0))), some (zi v1)], [zi 19, zi v1], h) (by decide +kernel) rfl ?_
    refine zG_icmp (op := .le) (off := 11) (tgt := 18) (by decide +kernel) rfl Iff.rfl (fun c6 => ?_) (fun c6 => ?_)
    · refine zG_run t_Main [(.iload_n 1, 0, 0), (.bipush 7, 0, 0)] (21, [some (zr (some (0, 0))), some (zi v1)], [zi 7, zi v1], h) (by decide +kernel) rfl ?_
      refine zG_icmp (op := .gt) (off := 9) (tgt := 30) (by decide +kernel) rfl Iff.rfl (fun c5 => ?_) (fun c5 => ?_)
      · refine zG_run t_Main [(.iload_n 1, 0, 0), (.bipush 17, 0, 0)] (33, [some (zr (some (0, 0))), some (zi v1)], [zi 17, zi v1], h) (by decide +kernel) rfl ?_
        refine zG_icmp (op := .lt) (off := 16) (tgt := 49) (by decide +kernel) rfl Iff.rfl (fun c3 => ?_) (fun c3 => ?_)
        · refine zG_run t_Main [(.aload_n 0, 0, 0), (.iload_n 1, 0, 0)] (51, [some (zr (some (0, 0))), some (zi v1)], [zi v1, zr (some (0, 0))], h) (by decide +kernel) rfl ?_
          refine zG_callV (idx := 119) (R := (fun a => (some (zi a.1), a.2))) (as := [zi v1]) (rest := []) (n := 1) (fun a ha => c_Main_countOfMachine hl ha) (by decide +kernel) ⟨ok_Main_countOfMachine, by decide, by decide +kernel⟩ rfl w_207 w_208 w_209 (by decide) rfl rfl rfl (Nat.le_of_ble_eq_true rfl) fun x1 => ?_
          exact zG_ret (r := some (zi x1.1)) rfl (zrd_i rfl (by decide +kernel))
        · refine zG_run t_Main [(.aload_n 0, 0, 0), (.getfield 58, 0, 7), (.getfield 115, 7, 8), (.iload_n 1, 0, 0), (.bipush 17, 0, 0), (.isub, 0, 0)] (47, [some (zr (some (0, 0))), some (zi v1)], [zi (v1 - 17), zr (some (59, 162))], h) (by decide +kernel) rfl ?_
          refine zG_ald (v := zi (h.1 162 (v1 - 17).toNatClampNeg)) (n := 3) rfl (by decide +kernel) rfl rfl fun hb2 => ?_
          exact zG_ret (r := some (zi (h.1 162 (v1 - 17).toNatClampNeg))) rfl (zrd_i rfl (by decide +kernel))
      · refine zG_run t_Main [(.aload_n 0, 0, 0), (.iload_n 1, 0, 0)] (26, [some (zr (some (0, 0))), some (zi v1)], [zi v1, zr (some (0, 0))], h) (by decide +kernel) rfl ?_
        refine zG_callV (idx := 112) (R := (fun a => (some (zi a), h))) (as := [zi v1]) (rest := []) (n := 1) (fun a ha => c_Main_countOfNet hl ha) (by decide +kernel) ⟨ok_Main_countOfNet, by decide, by decide +kernel⟩ rfl w_217 w_218 w_219 (by decide) rfl rfl rfl (Nat.le_of_ble_eq_true rfl) fun x4 => ?_
        exact zG_ret (r := some (zi x4)) rfl (zrd_i rfl (by decide +kernel))
    · refine zG_mono (bc' := 1) (bs' := 6) (by decide) (by decide) ?_
      exact zG_forget (L' := [none, none]) (trivial) (k_Main_count_j10 hl)
theorem c_Main_count {l : Launch} {X : zX} (hl : l.stackTraces = false) {h : zH} {v1 : Int32} {x : (Int32 × zH) ⊕ (Nat × zH)} (hx : f_Main_count h v1 = some x) : zCt l (true, 2) 2 m_Main_count X 1 6 [zr (some (0, 0)), zi v1] h ((Sum.elim (fun a => (.inl (some (zi a.1)), a.2)) (fun q => (.inr q.1, q.2)) : (Int32 × zH) ⊕ (Nat × zH) → zF) x) :=
  zG_ct (R := Sum.elim (fun a => (.inl (some (zi a.1)), a.2)) (fun q => (.inr q.1, q.2))) (x := x) ok_Main_count hl (Nat.le_of_ble_eq_true rfl) hx (k_Main_count hl)
def m_Net_isLine : zM := (({ cls := "ScanPacker$Net", name := "isLine", desc := "(I)Z" } : Jvm.MethodName), prog_4_method_4_code, 2, (Option.some Jvm.ClassFile.FieldType.boolean), [], 2)
theorem ok_Net_isLine : zMok m_Net_isLine := ⟨by decide +kernel, zW_of 846 (by decide +kernel) (by decide +kernel), zW_of 125 (by decide +kernel) (by decide +kernel), by decide, by decide +kernel, by decide +kernel⟩
def f_Net_isLine (o : Nat) (h : zH) (v1 : Int32) : Option (Int32) :=
  if v1 < 0 then (
  some 0) else (
  (f_Net_lines o h).bind fun x1 =>
    if x1 ≤ v1 then (
    some 0) else (
    some 1))
set_option maxRecDepth 20000 in
theorem k_Net_isLine {l : Launch} {X : zX} (hl : l.stackTraces = false) {o : Nat} {h : zH} {v1 : Int32} : zGl l m_Net_isLine X 0 0 (f_Net_isLine o h v1) (0, [some (zr (some (3, o))), some (zi v1)], [], h) (fun x => .inr ((fun a => (.inl (some (zi a)), h) : Int32 → zF) x)) := by
  unfold f_Net_isLine
  refine zG_run t_Net [(.iload_n 1, 0, 0)] (1, [some (zr (some (3, o))), some (zi v1)], [zi v1], h) (by decide +kernel) rfl ?_
  refine zG_if (op := .lt) (off := 15) (tgt := 16) (by decide +kernel) rfl Iff.rfl (fun c3 => ?_) (fun c3 => ?_)
  · refine zG_run t_Net [(.iconst 0, 0, 0)] (17, [some (zr (some (3, o))), some (zi v1)], [zi 0], h) (by decide +kernel) rfl ?_
    exact zG_ret (r := some (zi 0)) rfl (zrd_z rfl (by decide +kernel) rfl)
  · refine zG_run t_Net [(.iload_n 1, 0, 0), (.aload_n 0, 0, 0)] (6, [some (zr (some (3, o))), some (zi v1)], [zr (some (3, o)), zi v1], h) (by decide +kernel) rfl ?_
    refine zG_callV (idx := 64) (R := (fun a => (some (zi a), h))) (as := []) (rest := [zi v1]) (n := 0) (fun a ha => c_Net_lines hl ha) (by decide +kernel) ⟨ok_Net_lines, by decide, by decide +kernel⟩ rfl w_34 w_35 w_36 (by decide) rfl rfl rfl (Nat.le_of_ble_eq_true rfl) fun x1 => ?_
    refine zG_icmp (op := .ge) (off := 7) (tgt := 16) (by decide +kernel) rfl Iff.rfl (fun c2 => ?_) (fun c2 => ?_)
    · refine zG_run t_Net [(.iconst 0, 0, 0)] (17, [some (zr (some (3, o))), some (zi v1)], [zi 0], h) (by decide +kernel) rfl ?_
      exact zG_ret (r := some (zi 0)) rfl (zrd_z rfl (by decide +kernel) rfl)
    · refine zG_run t_Net [(.iconst 1, 0, 0), (.goto 4, 0, 0)] (17, [some (zr (some (3, o))), some (zi v1)], [zi 1], h) (by decide +kernel) rfl ?_
      exact zG_ret (r := some (zi 1)) rfl (zrd_z rfl (by decide +kernel) rfl)
theorem c_Net_isLine {l : Launch} {X : zX} (hl : l.stackTraces = false) {o : Nat} {h : zH} {v1 : Int32} {x : Int32} (hx : f_Net_isLine o h v1 = some x) : zCt l (true, 2) 2 m_Net_isLine X 0 0 [zr (some (3, o)), zi v1] h ((fun a => (.inl (some (zi a)), h) : Int32 → zF) x) :=
  zG_ct (R := fun a => (.inl (some (zi a)), h)) (x := x) ok_Net_isLine hl (Nat.le_of_ble_eq_true rfl) hx (k_Net_isLine hl)
def m_Main_needLine : zM := (({ cls := "ScanPacker", name := "needLine", desc := "(I)V" } : Jvm.MethodName), prog_1_method_43_code, 2, (Option.none : Option Jvm.ClassFile.FieldType), [], 6)
theorem ok_Main_needLine : zMok m_Main_needLine := ⟨by decide +kernel, zW_of 1150 (by decide +kernel) (by decide +kernel), zW_of 122 (by decide +kernel) (by decide +kernel), by decide, by decide +kernel, by decide +kernel⟩
def f_Main_needLine (h : zH) (v1 : Int32) : Option ((Unit × zH) ⊕ (Nat × zH)) :=
  zgr (h.2.2.1 0 1) 3 fun w1 =>
  (f_Net_isLine w1 h v1).bind fun x2 =>
  if ¬ x2 = 0 then (
  some (.inl ((), h))) else (
  some (.inr (1, h)))
set_option maxRecDepth 20000 in
theorem k_Main_needLine {l : Launch} {X : zX} (hl : l.stackTraces = false) {h : zH} {v1 : Int32} : zGl l m_Main_needLine X 1 6 (f_Main_needLine h v1) (0, [some (zr (some (0, 0))), some (zi v1)], [], h) (fun x => .inr ((Sum.elim (fun a => (.inl (none), a.2)) (fun q => (.inr q.1, q.2)) : (Unit × zH) ⊕ (Nat × zH) → zF) x)) := by
  unfold f_Main_needLine
  refine zG_run t_Main [(.aload_n 0, 0, 0), (.getfield 19, 0, 1)] (4, [some (zr (some (0, 0))), some (zi v1)], [zr (h.2.2.1 0 1)], h) (by decide +kernel) rfl ?_
  refine zG_dyn fun w1 _ => ?_
  refine zG_run t_Main [(.iload_n 1, 0, 0)] (5, [some (zr (some (0, 0))), some (zi v1)], [zi v1, zr (some (3, w1))], h) (by decide +kernel) rfl ?_
  refine zG_callV (idx := 313) (R := (fun a => (some (zi a), h))) (as := [zi v1]) (rest := []) (n := 1) (fun a ha => c_Net_isLine hl ha) (by decide +kernel) ⟨ok_Net_isLine, by decide, by decide +kernel⟩ rfl w_220 w_221 w_222 (by decide) rfl rfl rfl (Nat.le_of_ble_eq_true rfl) fun x2 => ?_
  refine zG_if (op := .ne) (off := 11) (tgt := 19) (by decide +kernel) rfl Iff.rfl (fun c3 => ?_) (fun c3 => ?_)
  · exact zG_ret (r := none) rfl (zrd_v rfl (by decide +kernel))
  · refine zG_mono (bc' := 0 + 1) (bs' := 0 + 6) (by decide) (by decide) ?_
    exact zG_throw (k := 1) (ik := 109) (ic := 111) rfl (Or.inl rfl) (by decide +kernel) (by decide +kernel) (by decide +kernel) (by decide +kernel) w_176 w_177 (by decide +kernel) (by decide +kernel) (Nat.le_of_ble_eq_true rfl) (by decide) rfl
theorem c_Main_needLine {l : Launch} {X : zX} (hl : l.stackTraces = false) {h : zH} {v1 : Int32} {x : (Unit × zH) ⊕ (Nat × zH)} (hx : f_Main_needLine h v1 = some x) : zCt l (true, 2) 2 m_Main_needLine X 1 6 [zr (some (0, 0)), zi v1] h ((Sum.elim (fun a => (.inl (none), a.2)) (fun q => (.inr q.1, q.2)) : (Unit × zH) ⊕ (Nat × zH) → zF) x) :=
  zG_ct (R := Sum.elim (fun a => (.inl (none), a.2)) (fun q => (.inr q.1, q.2))) (x := x) ok_Main_needLine hl (Nat.le_of_ble_eq_true rfl) hx (k_Main_needLine hl)
def m_Catalog_tell : zM := (({ cls := "ScanPacker$Catalog", name := "tell", desc := "(III)I" } : Jvm.MethodName), prog_2_method_7_code, 4, (Option.some Jvm.ClassFile.FieldType.int), [], 1)
theorem ok_Catalog_tell : zMok m_Catalog_tell := ⟨by decide +kernel, zW_of 770 (by decide +kernel) (by decide +kernel), zW_of 126 (by decide +kernel) (by decide +kernel), by decide, by decide +kernel, by decide +kernel⟩
def f_Catalog_tell (h : zH) (v1 : Int32) (v2 : Int32) (v3 : Int32) : Option (Int32) :=
  zg (zb (v1 + 1) 45) <|
  zg (zb v2 22) <|
  some ((zlushr (h.2.1 (75 + (1 + 1 * (v1 + 1).toNatClampNeg)) v2.toNatClampNeg) v3).toInt32 &&& 1)
set_option maxRecDepth 20000 in
theorem k_Catalog_tell {l : Launch} {X : zX} (hl : l.stackTraces = false) {h : zH} {v1 : Int32} {v2 : Int32} {v3 : Int32} : zGl l m_Catalog_tell X 0 0 (f_Catalog_tell h v1 v2 v3) (0, [some (zr (some (1, 74))), some (zi v1), some (zi v2), some (zi v3)], [], h) (fun x => .inr ((fun a => (.inl (some (zi a)), h) : Int32 → zF) x)) := by
  unfold f_Catalog_tell
  refine zG_run t_Catalog [(.aload_n 0, 0, 0), (.getfield 11, 1, 4), (.iload_n 1, 0, 0), (.iconst 1, 0, 0), (.iadd, 0, 0)] (7, [some (zr (some (1, 74))), some (zi v1), some (zi v2), some (zi v3)], [zi (v1 + 1), zr (some (32, 75))], h) (by decide +kernel) rfl ?_
  refine zG_ald (v := zr (some (33, (75 + (1 + 1 * (v1 + 1).toNatClampNeg))))) (n := 45) rfl (by decide +kernel) rfl rfl fun hb1 => ?_
  refine zG_run t_Catalog [(.iload_n 2, 0, 0)] (9, [some (zr (some (1, 74))), some (zi v1), some (zi v2), some (zi v3)], [zi v2, zr (some (33, (75 + (1 + 1 * (v1 + 1).toNatClampNeg))))], h) (by decide +kernel) rfl ?_
  refine zG_ald (v := zl (h.2.1 (75 + (1 + 1 * (v1 + 1).toNatClampNeg)) v2.toNatClampNeg)) (n := 22) rfl (by decide +kernel) rfl rfl fun hb2 => ?_
  refine zG_run t_Catalog [(.iload_n 3, 0, 0), (.lushr, 0, 0), (.l2i, 0, 0), (.iconst 1, 0, 0), (.iand, 0, 0)] (15, [some (zr (some (1, 74))), some (zi v1), some (zi v2), some (zi v3)], [zi ((zlushr (h.2.1 (75 + (1 + 1 * (v1 + 1).toNatClampNeg)) v2.toNatClampNeg) v3).toInt32 &&& 1)], h) (by decide +kernel) rfl ?_
  exact zG_ret (r := some (zi ((zlushr (h.2.1 (75 + (1 + 1 * (v1 + 1).toNatClampNeg)) v2.toNatClampNeg) v3).toInt32 &&& 1))) rfl (zrd_i rfl (by decide +kernel))
theorem c_Catalog_tell {l : Launch} {X : zX} (hl : l.stackTraces = false) {h : zH} {v1 : Int32} {v2 : Int32} {v3 : Int32} {x : Int32} (hx : f_Catalog_tell h v1 v2 v3 = some x) : zCt l (true, 2) 2 m_Catalog_tell X 0 0 [zr (some (1, 74)), zi v1, zi v2, zi v3] h ((fun a => (.inl (some (zi a)), h) : Int32 → zF) x) :=
  zG_ct (R := fun a => (.inl (some (zi a)), h)) (x := x) ok_Catalog_tell hl (Nat.le_of_ble_eq_true rfl) hx (k_Catalog_tell hl)
