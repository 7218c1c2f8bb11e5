/-! methods, by wip/whole/gen.py -/
def m_Main_put : zM := (({ cls := "ScanPacker", name := "put", desc := "(II)I" } : Jvm.MethodName), prog_1_method_16_code, 4, (Option.some Jvm.ClassFile.FieldType.int), [], 3)
theorem ok_Main_put : zMok m_Main_put := ⟨by decide +kernel, zW_of 717 (by decide +kernel) (by decide +kernel), zW_of 122 (by decide +kernel) (by decide +kernel), by decide, by decide +kernel, by decide +kernel⟩
set_option maxRecDepth 20000 in
theorem k_Main_put_j18 {l : Launch} {X : zX} (hl : l.stackTraces = false) {h : zH} : zGl l m_Main_put X 0 0 (f_Main_put_j18 h) (18, [some (zr (some (0, 0))), none, none, none], [], h) (fun x => .inr ((fun a => (.inl (some (zi a.1)), a.2) : Int32 × zH → zF) x)) := by
  unfold f_Main_put_j18
  refine zG_run t_Main [(.aload_n 0, 0, 0)] (19, [some (zr (some (0, 0))), none, none, none], [zr (some (0, 0))], h) (by decide +kernel) rfl ?_
  refine zG_callV (idx := 265) (R := (fun a => (some (zi a.1), a.2))) (as := []) (rest := []) (n := 0) (fun a ha => c_Main_refuseAct hl ha) (by decide +kernel) ⟨ok_Main_refuseAct, by decide, by decide +kernel⟩ rfl w_295 w_296 w_297 (by decide) rfl rfl rfl (Nat.le_of_ble_eq_true rfl) fun x3 => ?_
  exact zG_ret (r := some (zi x3.1)) rfl (zrd_i rfl (by decide +kernel))
set_option maxRecDepth 20000 in
theorem k_Main_put {l : Launch} {X : zX} (hl : l.stackTraces = false) {h : zH} {v1 : Int32} {v2 : Int32} : zGl l m_Main_put X 0 0 (f_Main_put h v1 v2) (0, [some (zr (some (0, 0))), some (zi v1), some (zi v2), none], [], h) (fun x => .inr ((fun a => (.inl (some (zi a.1)), a.2) : Int32 × zH → zF) x)) := by
  unfold f_Main_put
  refine zG_run t_Main [(.aload_n 0, 0, 0), (.getfield 19, 0, 1)] (4, [some (zr (some (0, 0))), some (zi v1), some (zi v2), none], [zr (h.2.2.1 0 1)], h) (by decide +kernel) rfl ?_
  refine zG_dyn fun w1 _ => ?_
  refine zG_run t_Main [(.iload_n 1, 0, 0)] (5, [some (zr (some (0, 0))), some (zi v1), some (zi v2), none], [zi v1, zr (some (3, w1))], h) (by decide +kernel) rfl ?_
  refine zG_callV (idx := 259) (R := (fun a => (some (zi a), h))) (as := [zi v1]) (rest := []) (n := 1) (fun a ha => c_Net_isPin hl ha) (by decide +kernel) ⟨ok_Net_isPin, by decide, by decide +kernel⟩ rfl w_292 w_293 w_294 (by decide) rfl rfl rfl (Nat.le_of_ble_eq_true rfl) fun x2 => ?_
  refine zG_if (op := .eq) (off := 10) (tgt := 18) (by decide +kernel) rfl Iff.rfl (fun c10 => ?_) (fun c10 => ?_)
  · exact zG_forget (L' := [some (zr (some (0, 0))), none, none, none]) (And.intro rfl trivial) (k_Main_put_j18 hl)
  · refine zG_run t_Main [(.iload_n 2, 0, 0)] (12, [some (zr (some (0, 0))), some (zi v1), some (zi v2), none], [zi v2], h) (by decide +kernel) rfl ?_
    refine zG_callS (idx := 262) (R := (fun a => (some (zi a), h))) (as := [zi v2]) (rest := []) (n := 1) (fun a ha => c_Main_isBit hl ha) (by decide +kernel) ⟨ok_Main_isBit, by decide, by decide +kernel⟩ rfl w_298 w_299 rfl rfl (Nat.le_of_ble_eq_true rfl) fun x4 => ?_
    refine zG_if (op := .ne) (off := 8) (tgt := 23) (by decide +kernel) rfl Iff.rfl (fun c9 => ?_) (fun c9 => ?_)
    · refine zG_run t_Main [(.aload_n 0, 0, 0), (.getfield 58, 0, 7)] (27, [some (zr (some (0, 0))), some (zi v1), some (zi v2), none], [zr (some (7, 155))], h) (by decide +kernel) rfl ?_
      refine zG_callV (idx := 269) (R := (fun a => (none, a))) (as := []) (rest := []) (n := 0) (fun a ha => c_Session_keepState hl ha) (by decide +kernel) ⟨ok_Session_keepState, by decide, by decide +kernel⟩ rfl w_303 w_304 w_305 (by decide) rfl rfl rfl (Nat.le_of_ble_eq_true rfl) fun x5 => ?_
      refine zG_run t_Main [(.aload_n 0, 0, 0), (.getfield 58, 0, 7), (.getfield 139, 7, 0), (.getfield 145, 8, 0), (.iload_n 1, 0, 0)] (41, [some (zr (some (0, 0))), some (zi v1), some (zi v2), none], [zi v1, zi (x5.1 156 0)], x5) (by decide +kernel) rfl ?_
      refine zG_callS (idx := 272) (R := (fun a => (some (zi a), x5))) (as := [zi (x5.1 156 0), zi v1]) (rest := []) (n := 2) (fun a ha => c_Main_bitOf hl ha) (by decide +kernel) ⟨ok_Main_bitOf, by decide, by decide +kernel⟩ rfl w_306 w_68 rfl rfl (Nat.le_of_ble_eq_true rfl) fun x6 => ?_
      refine zG_run t_Main [(.istore_n 3, 0, 0), (.aload_n 0, 0, 0), (.getfield 58, 0, 7), (.getfield 139, 7, 0), (.aload_n 0, 0, 0), (.getfield 58, 0, 7), (.getfield 139, 7, 0), (.getfield 145, 8, 0), (.iload_n 1, 0, 0), (.iload_n 2, 0, 0)] (64, [some (zr (some (0, 0))), some (zi v1), some (zi v2), some (zi x6)], [zi v2, zi v1, zi (x5.1 156 0), zr (some (8, 156))], x5) (by decide +kernel) rfl ?_
      refine zG_callS (idx := 275) (R := (fun a => (some (zi a), x5))) (as := [zi (x5.1 156 0), zi v1, zi v2]) (rest := [zr (some (8, 156))]) (n := 3) (fun a ha => c_Main_withBit hl ha) (by decide +kernel) ⟨ok_Main_withBit, by decide, by decide +kernel⟩ rfl w_307 w_190 rfl rfl (Nat.le_of_ble_eq_true rfl) fun x7 => ?_
      refine zG_bind (fun y => (70, [some (zr (some (0, 0))), some (zi v1), some (zi v2), some (zi x6)], [], y)) (zG_run t_Main [(.putfield 145, 8, 0)] (70, [some (zr (some (0, 0))), some (zi v1), some (zi v2), some (zi x6)], [], zsI x5 156 0 x7) (by decide +kernel) rfl (zG_end (L' := [some (zr (some (0, 0))), some (zi v1), some (zi v2), some (zi x6)]) rfl (And.intro rfl (And.intro rfl (And.intro rfl (And.intro rfl trivial)))))) fun h8 => ?_
      refine zG_run t_Main [(.iload_n 3, 0, 0)] (71, [some (zr (some (0, 0))), some (zi v1), some (zi v2), some (zi x6)], [zi x6], h8) (by decide +kernel) rfl ?_
      exact zG_ret (r := some (zi x6)) rfl (zrd_i rfl (by decide +kernel))
    · exact zG_forget (L' := [some (zr (some (0, 0))), none, none, none]) (And.intro rfl trivial) (k_Main_put_j18 hl)
theorem c_Main_put {l : Launch} {X : zX} (hl : l.stackTraces = false) {h : zH} {v1 : Int32} {v2 : Int32} {x : Int32 × zH} (hx : f_Main_put h v1 v2 = some x) : zCt l (true, 2) 2 m_Main_put X 0 0 [zr (some (0, 0)), zi v1, zi v2] h ((fun a => (.inl (some (zi a.1)), a.2) : Int32 × zH → zF) x) :=
  zG_ct (R := fun a => (.inl (some (zi a.1)), a.2)) (x := x) ok_Main_put hl (Nat.le_of_ble_eq_true rfl) hx (k_Main_put hl)
def m_State_shiftCells : zM := (({ cls := "ScanPacker$State", name := "shiftCells", desc := "(LScanPacker$Net;I)I" } : Jvm.MethodName), prog_9_method_4_code, 9, (Option.some Jvm.ClassFile.FieldType.int), [], 2)
theorem ok_State_shiftCells : zMok m_State_shiftCells := ⟨by decide +kernel, zW_of 752 (by decide +kernel) (by decide +kernel), zW_of 132 (by decide +kernel) (by decide +kernel), by decide, by decide +kernel, by decide +kernel⟩
set_option maxRecDepth 20000 in
theorem k_State_shiftCells_b25 {l : Launch} {X : zX} (hl : l.stackTraces = false) {o : Nat} {o1 : Nat} {h : zH} {v2 : Int32} {v3 : Int32} {v4 : Int32} {v5 : Int32} {v6 : Int32} : zGl l m_State_shiftCells X 0 0 (f_State_shiftCells_b25 o o1 h v2 v3 v4 v5 v6) (25, [some (zr (some (8, o))), some (zr (some (3, o1))), some (zi v2), some (zi v3), some (zi v4), some (zi v5), some (zi v6), none, none], [], h) (Sum.elim (fun s : Int32 × Int32 × zH => .inl (25, [some (zr (some (8, o))), some (zr (some (3, o1))), some (zi v2), some (zi v3), some (zi v4), some (zi s.1), some (zi s.2.1), none, none], [], s.2.2)) (fun y : Int32 × zH => .inl (85, [some (zr (some (8, o))), some (zr (some (3, o1))), some (zi v2), some (zi v3), some (zi v4), some (zi y.1), none, none, none], [], y.2))) := by
  unfold f_State_shiftCells_b25
  refine zG_run t_State [(.iload 6, 0, 0), (.aload_n 1, 0, 0), (.getfield 44, 3, 15), (.iload 4, 0, 0)] (33, [some (zr (some (8, o))), some (zr (some (3, o1))), some (zi v2), some (zi v3), some (zi v4), some (zi v5), some (zi v6), none, none], [zi v4, zr (some (31, (o1 + 34))), zi v6], h) (by decide +kernel) rfl ?_
  refine zG_ald (v := zi (h.1 (o1 + 34) v4.toNatClampNeg)) (n := 3) rfl (by decide +kernel) rfl rfl fun hb2 => ?_
  refine zG_icmp (op := .ge) (off := 51) (tgt := 85) (by decide +kernel) rfl Iff.rfl (fun c8 => ?_) (fun c8 => ?_)
  · exact zG_end (L' := [some (zr (some (8, o))), some (zr (some (3, o1))), some (zi v2), some (zi v3), some (zi v4), some (zi v5), none, none, none]) rfl (And.intro rfl (And.intro rfl (And.intro rfl (And.intro rfl (And.intro rfl (And.intro rfl trivial))))))
  · refine zG_run t_State [(.aload_n 1, 0, 0), (.getfield 47, 3, 14), (.iload 4, 0, 0)] (43, [some (zr (some (8, o))), some (zr (some (3, o1))), some (zi v2), some (zi v3), some (zi v4), some (zi v5), some (zi v6), none, none], [zi v4, zr (some (29, (o1 + 30)))], h) (by decide +kernel) rfl ?_
    refine zG_ald (v := zr (some (30, ((o1 + 30) + (1 + 1 * v4.toNatClampNeg))))) (n := 3) rfl (by decide +kernel) rfl rfl fun hb3 => ?_
    refine zG_run t_State [(.iload 6, 0, 0)] (46, [some (zr (some (8, o))), some (zr (some (3, o1))), some (zi v2), some (zi v3), some (zi v4), some (zi v5), some (zi v6), none, none], [zi v6, zr (some (30, ((o1 + 30) + (1 + 1 * v4.toNatClampNeg))))], h) (by decide +kernel) rfl ?_
    refine zG_ald (v := zi (h.1 ((o1 + 30) + (1 + 1 * v4.toNatClampNeg)) v6.toNatClampNeg)) (n := 6) rfl (by decide +kernel) rfl rfl fun hb4 => ?_
    refine zG_run t_State [(.istore 7, 0, 0), (.aload_n 0, 0, 0), (.getfield 19, 8, 0), (.iload 7, 0, 0)] (55, [some (zr (some (8, o))), some (zr (some (3, o1))), some (zi v2), some (zi v3), some (zi v4), some (zi v5), some (zi v6), some (zi (h.1 ((o1 + 30) + (1 + 1 * v4.toNatClampNeg)) v6.toNatClampNeg)), none], [zi (h.1 ((o1 + 30) + (1 + 1 * v4.toNatClampNeg)) v6.toNatClampNeg), zi (h.1 o 0)], h) (by decide +kernel) rfl ?_
    refine zG_callN (idx := 40) (host := "ScanPacker") (R := (fun a => (some (zi a), h))) (as := [zi (h.1 o 0), zi (h.1 ((o1 + 30) + (1 + 1 * v4.toNatClampNeg)) v6.toNatClampNeg)]) (rest := []) (n := 2) (fun a ha => c_Main_bitOf hl ha) (by decide +kernel) ⟨ok_Main_bitOf, by decide, by decide +kernel⟩ rfl (by decide +kernel) w_68 rfl rfl (Nat.le_of_ble_eq_true rfl) fun x5 => ?_
    refine zG_run t_State [(.istore 8, 0, 0), (.aload_n 0, 0, 0), (.aload_n 0, 0, 0), (.getfield 19, 8, 0), (.iload 7, 0, 0), (.iload 5, 0, 0)] (69, [some (zr (some (8, o))), some (zr (some (3, o1))), some (zi v2), some (zi v3), some (zi v4), some (zi v5), some (zi v6), some (zi (h.1 ((o1 + 30) + (1 + 1 * v4.toNatClampNeg)) v6.toNatClampNeg)), some (zi x5)], [zi v5, zi (h.1 ((o1 + 30) + (1 + 1 * v4.toNatClampNeg)) v6.toNatClampNeg), zi (h.1 o 0), zr (some (8, o))], h) (by decide +kernel) rfl ?_
    refine zG_callN (idx := 51) (host := "ScanPacker") (R := (fun a => (some (zi a), h))) (as := [zi (h.1 o 0), zi (h.1 ((o1 + 30) + (1 + 1 * v4.toNatClampNeg)) v6.toNatClampNeg), zi v5]) (rest := [zr (some (8, o))]) (n := 3) (fun a ha => c_Main_withBit hl ha) (by decide +kernel) ⟨ok_Main_withBit, by decide, by decide +kernel⟩ rfl (by decide +kernel) w_190 rfl rfl (Nat.le_of_ble_eq_true rfl) fun x6 => ?_
    refine zG_bind (fun y => (75, [some (zr (some (8, o))), some (zr (some (3, o1))), some (zi v2), some (zi v3), some (zi v4), some (zi v5), some (zi v6), some (zi (h.1 ((o1 + 30) + (1 + 1 * v4.toNatClampNeg)) v6.toNatClampNeg)), some (zi x5)], [], y)) (zG_run t_State [(.putfield 19, 8, 0)] (75, [some (zr (some (8, o))), some (zr (some (3, o1))), some (zi v2), some (zi v3), some (zi v4), some (zi v5), some (zi v6), some (zi (h.1 ((o1 + 30) + (1 + 1 * v4.toNatClampNeg)) v6.toNatClampNeg)), some (zi x5)], [], zsI h o 0 x6) (by decide +kernel) rfl (zG_end (L' := [some (zr (some (8, o))), some (zr (some (3, o1))), some (zi v2), some (zi v3), some (zi v4), some (zi v5), some (zi v6), some (zi (h.1 ((o1 + 30) + (1 + 1 * v4.toNatClampNeg)) v6.toNatClampNeg)), some (zi x5)]) rfl (And.intro rfl (And.intro rfl (And.intro rfl (And.intro rfl (And.intro rfl (And.intro rfl (And.intro rfl (And.intro rfl (And.intro rfl trivial))))))))))) fun h7 => ?_
    refine zG_run t_State [(.iload 8, 0, 0), (.istore 5, 0, 0), (.iinc 6 1, 0, 0), (.goto (-57), 0, 0)] (25, [some (zr (some (8, o))), some (zr (some (3, o1))), some (zi v2), some (zi v3), some (zi v4), some (zi x5), some (zi (v6 + 1)), some (zi (h.1 ((o1 + 30) + (1 + 1 * v4.toNatClampNeg)) v6.toNatClampNeg)), some (zi x5)], [], h7) (by decide +kernel) rfl ?_
    exact zG_end (L' := [some (zr (some (8, o))), some (zr (some (3, o1))), some (zi v2), some (zi v3), some (zi v4), some (zi x5), some (zi (v6 + 1)), none, none]) rfl (And.intro rfl (And.intro rfl (And.intro rfl (And.intro rfl (And.intro rfl (And.intro rfl (And.intro rfl trivial)))))))
set_option maxRecDepth 20000 in
theorem k_State_shiftCells_b5 {l : Launch} {X : zX} (hl : l.stackTraces = false) {o : Nat} {o1 : Nat} {h : zH} {v2 : Int32} {v3 : Int32} {v4 : Int32} : zGl l m_State_shiftCells X 0 0 (f_State_shiftCells_b5 o o1 h v2 v3 v4) (5, [some (zr (some (8, o))), some (zr (some (3, o1))), some (zi v2), some (zi v3), some (zi v4), none, none, none, none], [], h) (Sum.elim (fun s : Int32 × Int32 × zH => .inl (5, [some (zr (some (8, o))), some (zr (some (3, o1))), some (zi v2), some (zi s.1), some (zi s.2.1), none, none, none, none], [], s.2.2)) (fun y : Int32 × zH => .inl (99, [some (zr (some (8, o))), none, none, some (zi y.1), none, none, none, none, none], [], y.2))) := by
  unfold f_State_shiftCells_b5
  refine zG_run t_State [(.iload 4, 0, 0), (.aload_n 1, 0, 0), (.getfield 35, 3, 2)] (11, [some (zr (some (8, o))), some (zr (some (3, o1))), some (zi v2), some (zi v3), some (zi v4), none, none, none, none], [zi (h.1 o1 2), zi v4], h) (by decide +kernel) rfl ?_
  refine zG_icmp (op := .ge) (off := 88) (tgt := 99) (by decide +kernel) rfl Iff.rfl (fun c11 => ?_) (fun c11 => ?_)
  · exact zG_end (L' := [some (zr (some (8, o))), none, none, some (zi v3), none, none, none, none, none]) rfl (And.intro rfl (And.intro rfl trivial))
  · refine zG_run t_State [(.iload_n 2, 0, 0), (.iload 4, 0, 0)] (17, [some (zr (some (8, o))), some (zr (some (3, o1))), some (zi v2), some (zi v3), some (zi v4), none, none, none, none], [zi v4, zi v2], h) (by decide +kernel) rfl ?_
    refine zG_callN (idx := 40) (host := "ScanPacker") (R := (fun a => (some (zi a), h))) (as := [zi v2, zi v4]) (rest := []) (n := 2) (fun a ha => c_Main_bitOf hl ha) (by decide +kernel) ⟨ok_Main_bitOf, by decide, by decide +kernel⟩ rfl (by decide +kernel) w_68 rfl rfl (Nat.le_of_ble_eq_true rfl) fun x1 => ?_
    refine zG_run t_State [(.istore 5, 0, 0), (.iconst 0, 0, 0), (.istore 6, 0, 0)] (25, [some (zr (some (8, o))), some (zr (some (3, o1))), some (zi v2), some (zi v3), some (zi v4), some (zi x1), some (zi 0), none, none], [], h) (by decide +kernel) rfl ?_
    refine zG_forget (L' := [some (zr (some (8, o))), some (zr (some (3, o1))), some (zi v2), some (zi v3), some (zi v4), some (zi x1), some (zi 0), none, none]) (And.intro rfl (And.intro rfl (And.intro rfl (And.intro rfl (And.intro rfl (And.intro rfl (And.intro rfl trivial))))))) ?_
    refine zG_bind (fun y : Int32 × zH => (85, [some (zr (some (8, o))), some (zr (some (3, o1))), some (zi v2), some (zi v3), some (zi v4), some (zi y.1), none, none, none], [], y.2)) (zG_iter (fun s : Int32 × Int32 × zH => (25, [some (zr (some (8, o))), some (zr (some (3, o1))), some (zi v2), some (zi v3), some (zi v4), some (zi s.1), some (zi s.2.1), none, none], [], s.2.2)) fun s => k_State_shiftCells_b25 hl) (fun y10 => ?_)
    refine zG_run t_State [(.iload_n 3, 0, 0), (.iload 5, 0, 0), (.iload 4, 0, 0), (.ishl, 0, 0), (.ior, 0, 0), (.istore_n 3, 0, 0), (.iinc 4 1, 0, 0), (.goto (-91), 0, 0)] (5, [some (zr (some (8, o))), some (zr (some (3, o1))), some (zi v2), some (zi (v3 ||| (zshl y10.1 v4))), some (zi (v4 + 1)), some (zi y10.1), none, none, none], [], y10.2) (by decide +kernel) rfl ?_
    exact zG_end (L' := [some (zr (some (8, o))), some (zr (some (3, o1))), some (zi v2), some (zi (v3 ||| (zshl y10.1 v4))), some (zi (v4 + 1)), none, none, none, none]) rfl (And.intro rfl (And.intro rfl (And.intro rfl (And.intro rfl (And.intro rfl trivial)))))
set_option maxRecDepth 20000 in
theorem k_State_shiftCells {l : Launch} {X : zX} (hl : l.stackTraces = false) {o : Nat} {o1 : Nat} {h : zH} {v2 : Int32} : zGl l m_State_shiftCells X 0 0 (f_State_shiftCells o o1 h v2) (0, [some (zr (some (8, o))), some (zr (some (3, o1))), some (zi v2), none, none, none, none, none, none], [], h) (fun x => .inr ((fun a => (.inl (some (zi a.1)), a.2) : Int32 × zH → zF) x)) := by
  unfold f_State_shiftCells
  refine zG_run t_State [(.iconst 0, 0, 0), (.istore_n 3, 0, 0), (.iconst 0, 0, 0), (.istore 4, 0, 0)] (5, [some (zr (some (8, o))), some (zr (some (3, o1))), some (zi v2), some (zi 0), some (zi 0), none, none, none, none], [], h) (by decide +kernel) rfl ?_
  refine zG_forget (L' := [some (zr (some (8, o))), some (zr (some (3, o1))), some (zi v2), some (zi 0), some (zi 0), none, none, none, none]) (And.intro rfl (And.intro rfl (And.intro rfl (And.intro rfl (And.intro rfl trivial))))) ?_
  refine zG_bind (fun y : Int32 × zH => (99, [some (zr (some (8, o))), none, none, some (zi y.1), none, none, none, none, none], [], y.2)) (zG_iter (fun s : Int32 × Int32 × zH => (5, [some (zr (some (8, o))), some (zr (some (3, o1))), some (zi v2), some (zi s.1), some (zi s.2.1), none, none, none, none], [], s.2.2)) fun s => k_State_shiftCells_b5 hl) (fun y13 => ?_)
  refine zG_bind (fun y => (109, [some (zr (some (8, o))), none, none, some (zi y13.1), none, none, none, none, none], [], y)) (zG_run t_State [(.aload_n 0, 0, 0), (.dup, 0, 0), (.getfield 22, 8, 1), (.iconst 1, 0, 0), (.iadd, 0, 0), (.putfield 22, 8, 1)] (109, [some (zr (some (8, o))), none, none, some (zi y13.1), none, none, none, none, none], [], zsI y13.2 o 1 ((y13.2.1 o 1) + 1)) (by decide +kernel) rfl (zG_end (L' := [some (zr (some (8, o))), none, none, some (zi y13.1), none, none, none, none, none]) rfl (And.intro rfl (And.intro rfl trivial)))) fun h14 => ?_
  refine zG_run t_State [(.iload_n 3, 0, 0)] (110, [some (zr (some (8, o))), none, none, some (zi y13.1), none, none, none, none, none], [zi y13.1], h14) (by decide +kernel) rfl ?_
  exact zG_ret (r := some (zi y13.1)) rfl (zrd_i rfl (by decide +kernel))
theorem c_State_shiftCells {l : Launch} {X : zX} (hl : l.stackTraces = false) {o : Nat} {o1 : Nat} {h : zH} {v2 : Int32} {x : Int32 × zH} (hx : f_State_shiftCells o o1 h v2 = some x) : zCt l (true, 2) 2 m_State_shiftCells X 0 0 [zr (some (8, o)), zr (some (3, o1)), zi v2] h ((fun a => (.inl (some (zi a.1)), a.2) : Int32 × zH → zF) x) :=
  zG_ct (R := fun a => (.inl (some (zi a.1)), a.2)) (x := x) ok_State_shiftCells hl (Nat.le_of_ble_eq_true rfl) hx (k_State_shiftCells hl)
def m_Main_shift : zM := (({ cls := "ScanPacker", name := "shift", desc := "(I)I" } : Jvm.MethodName), prog_1_method_17_code, 2, (Option.some Jvm.ClassFile.FieldType.int), [], 3)
theorem ok_Main_shift : zMok m_Main_shift := ⟨by decide +kernel, zW_of 748 (by decide +kernel) (by decide +kernel), zW_of 122 (by decide +kernel) (by decide +kernel), by decide, by decide +kernel, by decide +kernel⟩
set_option maxRecDepth 20000 in
theorem k_Main_shift_j20 {l : Launch} {X : zX} (hl : l.stackTraces = false) {h : zH} : zGl l m_Main_shift X 0 0 (f_Main_shift_j20 h) (20, [some (zr (some (0, 0))), none], [], h) (fun x => .inr ((fun a => (.inl (some (zi a.1)), a.2) : Int32 × zH → zF) x)) := by
  unfold f_Main_shift_j20
  refine zG_run t_Main [(.aload_n 0, 0, 0)] (21, [some (zr (some (0, 0))), none], [zr (some (0, 0))], h) (by decide +kernel) rfl ?_
  refine zG_callV (idx := 265) (R := (fun a => (some (zi a.1), a.2))) (as := []) (rest := []) (n := 0) (fun a ha => c_Main_refuseAct hl ha) (by decide +kernel) ⟨ok_Main_refuseAct, by decide, by decide +kernel⟩ rfl w_295 w_296 w_297 (by decide) rfl rfl rfl (Nat.le_of_ble_eq_true rfl) fun x2 => ?_
  exact zG_ret (r := some (zi x2.1)) rfl (zrd_i rfl (by decide +kernel))
set_option maxRecDepth 20000 in
theorem k_Main_shift {l : Launch} {X : zX} (hl : l.stackTraces = false) {h : zH} {v1 : Int32} : zGl l m_Main_shift X 0 0 (f_Main_shift h v1) (0, [some (zr (some (0, 0))), some (zi v1)], [], h) (fun x => .inr ((fun a => (.inl (some (zi a.1)), a.2) : Int32 × zH → zF) x)) := by
  unfold f_Main_shift
  refine zG_run t_Main [(.aload_n 0, 0, 0), (.getfield 19, 0, 1)] (4, [some (zr (some (0, 0))), some (zi v1)], [zr (h.2.2.1 0 1)], h) (by decide +kernel) rfl ?_
  refine zG_dyn fun w1 _ => ?_
  refine zG_run t_Main [(.getfield 278, 3, 2)] (7, [some (zr (some (0, 0))), some (zi v1)], [zi (h.1 w1 2)], h) (by decide +kernel) rfl ?_
  refine zG_if (op := .eq) (off := 13) (tgt := 20) (by decide +kernel) rfl Iff.rfl (fun c8 => ?_) (fun c8 => ?_)
  · exact zG_forget (L' := [some (zr (some (0, 0))), none]) (And.intro rfl trivial) (k_Main_shift_j20 hl)
  · refine zG_run t_Main [(.iload_n 1, 0, 0)] (11, [some (zr (some (0, 0))), some (zi v1)], [zi v1], h) (by decide +kernel) rfl ?_
    refine zG_if (op := .lt) (off := 9) (tgt := 20) (by decide +kernel) rfl Iff.rfl (fun c7 => ?_) (fun c7 => ?_)
    · exact zG_forget (L' := [some (zr (some (0, 0))), none]) (And.intro rfl trivial) (k_Main_shift_j20 hl)
    · refine zG_run t_Main [(.iload_n 1, 0, 0), (.bipush 7, 0, 0)] (17, [some (zr (some (0, 0))), some (zi v1)], [zi 7, zi v1], h) (by decide +kernel) rfl ?_
      refine zG_icmp (op := .le) (off := 8) (tgt := 25) (by decide +kernel) rfl Iff.rfl (fun c6 => ?_) (fun c6 => ?_)
      · refine zG_run t_Main [(.aload_n 0, 0, 0), (.getfield 58, 0, 7)] (29, [some (zr (some (0, 0))), some (zi v1)], [zr (some (7, 155))], h) (by decide +kernel) rfl ?_
        refine zG_callV (idx := 269) (R := (fun a => (none, a))) (as := []) (rest := []) (n := 0) (fun a ha => c_Session_keepState hl ha) (by decide +kernel) ⟨ok_Session_keepState, by decide, by decide +kernel⟩ rfl w_303 w_304 w_305 (by decide) rfl rfl rfl (Nat.le_of_ble_eq_true rfl) fun x3 => ?_
        refine zG_run t_Main [(.aload_n 0, 0, 0), (.getfield 58, 0, 7), (.getfield 139, 7, 0), (.aload_n 0, 0, 0), (.getfield 19, 0, 1)] (43, [some (zr (some (0, 0))), some (zi v1)], [zr (x3.2.2.1 0 1), zr (some (8, 156))], x3) (by decide +kernel) rfl ?_
        refine zG_dyn fun w4 _ => ?_
        refine zG_run t_Main [(.iload_n 1, 0, 0)] (44, [some (zr (some (0, 0))), some (zi v1)], [zi v1, zr (some (3, w4)), zr (some (8, 156))], x3) (by decide +kernel) rfl ?_
        refine zG_callV (idx := 281) (R := (fun a => (some (zi a.1), a.2))) (as := [zr (some (3, w4)), zi v1]) (rest := []) (n := 2) (fun a ha => c_State_shiftCells hl ha) (by decide +kernel) ⟨ok_State_shiftCells, by decide, by decide +kernel⟩ rfl w_308 w_309 w_310 (by decide) rfl rfl rfl (Nat.le_of_ble_eq_true rfl) fun x5 => ?_
        exact zG_ret (r := some (zi x5.1)) rfl (zrd_i rfl (by decide +kernel))
      · exact zG_forget (L' := [some (zr (some (0, 0))), none]) (And.intro rfl trivial) (k_Main_shift_j20 hl)
theorem c_Main_shift {l : Launch} {X : zX} (hl : l.stackTraces = false) {h : zH} {v1 : Int32} {x : Int32 × zH} (hx : f_Main_shift h v1 = some x) : zCt l (true, 2) 2 m_Main_shift X 0 0 [zr (some (0, 0)), zi v1] h ((fun a => (.inl (some (zi a.1)), a.2) : Int32 × zH → zF) x) :=
  zG_ct (R := fun a => (.inl (some (zi a.1)), a.2)) (x := x) ok_Main_shift hl (Nat.le_of_ble_eq_true rfl) hx (k_Main_shift hl)
def m_Catalog_inputsTaken : zM := (({ cls := "ScanPacker$Catalog", name := "inputsTaken", desc := "(LScanPacker$Net;II)I" } : Jvm.MethodName), prog_2_method_11_code, 6, (Option.some Jvm.ClassFile.FieldType.int), [], 2)
theorem ok_Catalog_inputsTaken : zMok m_Catalog_inputsTaken := ⟨by decide +kernel, zW_of 766 (by decide +kernel) (by decide +kernel), zW_of 126 (by decide +kernel) (by decide +kernel), by decide, by decide +kernel, by decide +kernel⟩
set_option maxRecDepth 20000 in
theorem k_Catalog_inputsTaken_b6 {l : Launch} {X : zX} (hl : l.stackTraces = false) {o1 : Nat} {h : zH} {v2 : Int32} {v3 : Int32} {v4 : Int32} {v5 : Int32} : zGl l m_Catalog_inputsTaken X 0 0 (f_Catalog_inputsTaken_b6 o1 h v2 v3 v4 v5) (6, [some (zr (some (1, 74))), some (zr (some (3, o1))), some (zi v2), some (zi v3), some (zi v4), some (zi v5)], [], h) (Sum.elim (fun s : Int32 × Int32 => .inl (6, [some (zr (some (1, 74))), some (zr (some (3, o1))), some (zi v2), some (zi v3), some (zi s.1), some (zi s.2)], [], h)) (fun y : Int32 => .inl (54, [none, none, none, none, some (zi y), none], [], h))) := by
  unfold f_Catalog_inputsTaken_b6
  refine zG_run t_Catalog [(.iload 5, 0, 0), (.aload_n 1, 0, 0), (.getfield 56, 3, 0)] (12, [some (zr (some (1, 74))), some (zr (some (3, o1))), some (zi v2), some (zi v3), some (zi v4), some (zi v5)], [zi (h.1 o1 0), zi v5], h) (by decide +kernel) rfl ?_
  refine zG_icmp (op := .ge) (off := 42) (tgt := 54) (by decide +kernel) rfl Iff.rfl (fun c6 => ?_) (fun c6 => ?_)
  · exact zG_end (L' := [none, none, none, none, some (zi v4), none]) rfl (And.intro rfl trivial)
  · refine zG_run t_Catalog [(.aload_n 1, 0, 0), (.getfield 107, 3, 13), (.iload 5, 0, 0)] (21, [some (zr (some (1, 74))), some (zr (some (3, o1))), some (zi v2), some (zi v3), some (zi v4), some (zi v5)], [zi v5, zr (some (28, (o1 + 29)))], h) (by decide +kernel) rfl ?_
    refine zG_ald (v := zi (h.1 (o1 + 29) v5.toNatClampNeg)) (n := 6) rfl (by decide +kernel) rfl rfl fun hb1 => ?_
    refine zG_run t_Catalog [(.iconst (-1), 0, 0)] (23, [some (zr (some (1, 74))), some (zr (some (3, o1))), some (zi v2), some (zi v3), some (zi v4), some (zi v5)], [zi (-1), zi (h.1 (o1 + 29) v5.toNatClampNeg)], h) (by decide +kernel) rfl ?_
    refine zG_icmp (op := .eq) (off := 25) (tgt := 48) (by decide +kernel) rfl Iff.rfl (fun c5 => ?_) (fun c5 => ?_)
    · refine zG_run t_Catalog [(.iinc 5 1, 0, 0), (.goto (-45), 0, 0)] (6, [some (zr (some (1, 74))), some (zr (some (3, o1))), some (zi v2), some (zi v3), some (zi v4), some (zi (v5 + 1))], [], h) (by decide +kernel) rfl ?_
      exact zG_end (L' := [some (zr (some (1, 74))), some (zr (some (3, o1))), some (zi v2), some (zi v3), some (zi v4), some (zi (v5 + 1))]) rfl (And.intro rfl (And.intro rfl (And.intro rfl (And.intro rfl (And.intro rfl (And.intro rfl trivial))))))
    · refine zG_run t_Catalog [(.iload 4, 0, 0), (.iload 5, 0, 0), (.aload_n 0, 0, 0), (.iload_n 3, 0, 0), (.aload_n 1, 0, 0), (.getfield 107, 3, 13), (.iload 5, 0, 0)] (38, [some (zr (some (1, 74))), some (zr (some (3, o1))), some (zi v2), some (zi v3), some (zi v4), some (zi v5)], [zi v5, zr (some (28, (o1 + 29))), zi v3, zr (some (1, 74)), zi v5, zi v4], h) (by decide +kernel) rfl ?_
      refine zG_ald (v := zi (h.1 (o1 + 29) v5.toNatClampNeg)) (n := 6) rfl (by decide +kernel) rfl rfl fun hb2 => ?_
      refine zG_run t_Catalog [(.iload_n 2, 0, 0)] (40, [some (zr (some (1, 74))), some (zr (some (3, o1))), some (zi v2), some (zi v3), some (zi v4), some (zi v5)], [zi v2, zi (h.1 (o1 + 29) v5.toNatClampNeg), zi v3, zr (some (1, 74)), zi v5, zi v4], h) (by decide +kernel) rfl ?_
      refine zG_callV (idx := 103) (R := (fun a => (some (zi a), h))) (as := [zi v3, zi (h.1 (o1 + 29) v5.toNatClampNeg), zi v2]) (rest := [zi v5, zi v4]) (n := 3) (fun a ha => c_Catalog_tell hl ha) (by decide +kernel) ⟨ok_Catalog_tell, by decide, by decide +kernel⟩ rfl w_311 w_228 w_229 (by decide) rfl rfl rfl (Nat.le_of_ble_eq_true rfl) fun x3 => ?_
      refine zG_callN (idx := 110) (host := "ScanPacker") (R := (fun a => (some (zi a), h))) (as := [zi v4, zi v5, zi x3]) (rest := []) (n := 3) (fun a ha => c_Main_withBit hl ha) (by decide +kernel) ⟨ok_Main_withBit, by decide, by decide +kernel⟩ rfl (by decide +kernel) w_190 rfl rfl (Nat.le_of_ble_eq_true rfl) fun x4 => ?_
      refine zG_run t_Catalog [(.istore 4, 0, 0), (.iinc 5 1, 0, 0), (.goto (-45), 0, 0)] (6, [some (zr (some (1, 74))), some (zr (some (3, o1))), some (zi v2), some (zi v3), some (zi x4), some (zi (v5 + 1))], [], h) (by decide +kernel) rfl ?_
      exact zG_end (L' := [some (zr (some (1, 74))), some (zr (some (3, o1))), some (zi v2), some (zi v3), some (zi x4), some (zi (v5 + 1))]) rfl (And.intro rfl (And.intro rfl (And.intro rfl (And.intro rfl (And.intro rfl (And.intro rfl trivial))))))
set_option maxRecDepth 20000 in
theorem k_Catalog_inputsTaken {l : Launch} {X : zX} (hl : l.stackTraces = false) {o1 : Nat} {h : zH} {v2 : Int32} {v3 : Int32} : zGl l m_Catalog_inputsTaken X 0 0 (f_Catalog_inputsTaken o1 h v2 v3) (0, [some (zr (some (1, 74))), some (zr (some (3, o1))), some (zi v2), some (zi v3), none, none], [], h) (fun x => .inr ((fun a => (.inl (some (zi a)), h) : Int32 → zF) x)) := by
  unfold f_Catalog_inputsTaken
  refine zG_run t_Catalog [(.iload_n 2, 0, 0), (.istore 4, 0, 0), (.iconst 0, 0, 0), (.istore 5, 0, 0)] (6, [some (zr (some (1, 74))), some (zr (some (3, o1))), some (zi v2), some (zi v3), some (zi v2), some (zi 0)], [], h) (by decide +kernel) rfl ?_
  refine zG_forget (L' := [some (zr (some (1, 74))), some (zr (some (3, o1))), some (zi v2), some (zi v3), some (zi v2), some (zi 0)]) (And.intro rfl (And.intro rfl (And.intro rfl (And.intro rfl (And.intro rfl (And.intro rfl trivial)))))) ?_
  refine zG_bind (fun y : Int32 => (54, [none, none, none, none, some (zi y), none], [], h)) (zG_iter (fun s : Int32 × Int32 => (6, [some (zr (some (1, 74))), some (zr (some (3, o1))), some (zi v2), some (zi v3), some (zi s.1), some (zi s.2)], [], h)) fun s => k_Catalog_inputsTaken_b6 hl) (fun y8 => ?_)
  refine zG_run t_Catalog [(.iload 4, 0, 0)] (56, [none, none, none, none, some (zi y8), none], [zi y8], h) (by decide +kernel) rfl ?_
  exact zG_ret (r := some (zi y8)) rfl (zrd_i rfl (by decide +kernel))
theorem c_Catalog_inputsTaken {l : Launch} {X : zX} (hl : l.stackTraces = false) {o1 : Nat} {h : zH} {v2 : Int32} {v3 : Int32} {x : Int32} (hx : f_Catalog_inputsTaken o1 h v2 v3 = some x) : zCt l (true, 2) 2 m_Catalog_inputsTaken X 0 0 [zr (some (1, 74)), zr (some (3, o1)), zi v2, zi v3] h ((fun a => (.inl (some (zi a)), h) : Int32 → zF) x) :=
  zG_ct (R := fun a => (.inl (some (zi a)), h)) (x := x) ok_Catalog_inputsTaken hl (Nat.le_of_ble_eq_true rfl) hx (k_Catalog_inputsTaken hl)
def m_State_takeLines : zM := (({ cls := "ScanPacker$State", name := "takeLines", desc := "(LScanPacker$Net;LScanPacker$Catalog;)V" } : Jvm.MethodName), prog_9_method_5_code, 3, (Option.none : Option Jvm.ClassFile.FieldType), [], 3)
theorem ok_State_takeLines : zMok m_State_takeLines := ⟨by decide +kernel, zW_of 762 (by decide +kernel) (by decide +kernel), zW_of 132 (by decide +kernel) (by decide +kernel), by decide, by decide +kernel, by decide +kernel⟩
set_option maxRecDepth 20000 in
theorem k_State_takeLines {l : Launch} {X : zX} (hl : l.stackTraces = false) {o : Nat} {o1 : Nat} {h : zH} : zGl l m_State_takeLines X 0 0 (f_State_takeLines o o1 h) (0, [some (zr (some (8, o))), some (zr (some (3, o1))), some (zr (some (1, 74)))], [], h) (fun x => .inr ((fun a => (.inl none, a) : zH → zF) x)) := by
  unfold f_State_takeLines
  refine zG_run t_State [(.aload_n 0, 0, 0), (.aload_n 2, 0, 0), (.aload_n 1, 0, 0), (.aload_n 0, 0, 0), (.getfield 19, 8, 0), (.aload_n 0, 0, 0), (.getfield 9, 8, 2)] (11, [some (zr (some (8, o))), some (zr (some (3, o1))), some (zr (some (1, 74)))], [zi (h.1 o 2), zi (h.1 o 0), zr (some (3, o1)), zr (some (1, 74)), zr (some (8, o))], h) (by decide +kernel) rfl ?_
  refine zG_callV (idx := 55) (R := (fun a => (some (zi a), h))) (as := [zr (some (3, o1)), zi (h.1 o 0), zi (h.1 o 2)]) (rest := [zr (some (8, o))]) (n := 3) (fun a ha => c_Catalog_inputsTaken hl ha) (by decide +kernel) ⟨ok_Catalog_inputsTaken, by decide, by decide +kernel⟩ rfl w_312 w_313 w_314 (by decide) rfl rfl rfl (Nat.le_of_ble_eq_true rfl) fun x1 => ?_
  refine zG_bind (fun y => (17, [some (zr (some (8, o))), some (zr (some (3, o1))), some (zr (some (1, 74)))], [], y)) (zG_run t_State [(.putfield 19, 8, 0)] (17, [some (zr (some (8, o))), some (zr (some (3, o1))), some (zr (some (1, 74)))], [], zsI h o 0 x1) (by decide +kernel) rfl (zG_end (L' := [some (zr (some (8, o))), some (zr (some (3, o1))), some (zr (some (1, 74)))]) rfl (And.intro rfl (And.intro rfl (And.intro rfl trivial))))) fun h2 => ?_
  refine zG_bind (fun y => (27, [some (zr (some (8, o))), some (zr (some (3, o1))), some (zr (some (1, 74)))], [], y)) (zG_run t_State [(.aload_n 0, 0, 0), (.dup, 0, 0), (.getfield 22, 8, 1), (.iconst 1, 0, 0), (.iadd, 0, 0), (.putfield 22, 8, 1)] (27, [some (zr (some (8, o))), some (zr (some (3, o1))), some (zr (some (1, 74)))], [], zsI h2 o 1 ((h2.1 o 1) + 1)) (by decide +kernel) rfl (zG_end (L' := [some (zr (some (8, o))), some (zr (some (3, o1))), some (zr (some (1, 74)))]) rfl (And.intro rfl (And.intro rfl (And.intro rfl trivial))))) fun h3 => ?_
  exact zG_ret (r := none) rfl (zrd_v rfl (by decide +kernel))
theorem c_State_takeLines {l : Launch} {X : zX} (hl : l.stackTraces = false) {o : Nat} {o1 : Nat} {h : zH} {x : zH} (hx : f_State_takeLines o o1 h = some x) : zCt l (true, 2) 2 m_State_takeLines X 0 0 [zr (some (8, o)), zr (some (3, o1)), zr (some (1, 74))] h ((fun a => (.inl none, a) : zH → zF) x) :=
  zG_ct (R := fun a => (.inl none, a)) (x := x) ok_State_takeLines hl (Nat.le_of_ble_eq_true rfl) hx (k_State_takeLines hl)
def m_Main_take : zM := (({ cls := "ScanPacker", name := "take", desc := "()I" } : Jvm.MethodName), prog_1_method_18_code, 1, (Option.some Jvm.ClassFile.FieldType.int), [], 4)
theorem ok_Main_take : zMok m_Main_take := ⟨by decide +kernel, zW_of 758 (by decide +kernel) (by decide +kernel), zW_of 122 (by decide +kernel) (by decide +kernel), by decide, by decide +kernel, by decide +kernel⟩
set_option maxRecDepth 20000 in
theorem k_Main_take {l : Launch} {X : zX} (hl : l.stackTraces = false) {h : zH} : zGl l m_Main_take X 0 0 (f_Main_take h) (0, [some (zr (some (0, 0)))], [], h) (fun x => .inr ((fun a => (.inl (some (zi a.1)), a.2) : Int32 × zH → zF) x)) := by
  unfold f_Main_take
  refine zG_run t_Main [(.aload_n 0, 0, 0), (.getfield 58, 0, 7)] (4, [some (zr (some (0, 0)))], [zr (some (7, 155))], h) (by decide +kernel) rfl ?_
  refine zG_callV (idx := 269) (R := (fun a => (none, a))) (as := []) (rest := []) (n := 0) (fun a ha => c_Session_keepState hl ha) (by decide +kernel) ⟨ok_Session_keepState, by decide, by decide +kernel⟩ rfl w_303 w_304 w_305 (by decide) rfl rfl rfl (Nat.le_of_ble_eq_true rfl) fun x1 => ?_
  refine zG_run t_Main [(.aload_n 0, 0, 0), (.getfield 58, 0, 7), (.getfield 139, 7, 0), (.aload_n 0, 0, 0), (.getfield 19, 0, 1)] (18, [some (zr (some (0, 0)))], [zr (x1.2.2.1 0 1), zr (some (8, 156))], x1) (by decide +kernel) rfl ?_
  refine zG_dyn fun w2 _ => ?_
  refine zG_run t_Main [(.aload_n 0, 0, 0), (.getfield 30, 0, 3)] (22, [some (zr (some (0, 0)))], [zr (some (1, 74)), zr (some (3, w2)), zr (some (8, 156))], x1) (by decide +kernel) rfl ?_
  refine zG_callV (idx := 284) (R := (fun a => (none, a))) (as := [zr (some (3, w2)), zr (some (1, 74))]) (rest := []) (n := 2) (fun a ha => c_State_takeLines hl ha) (by decide +kernel) ⟨ok_State_takeLines, by decide, by decide +kernel⟩ rfl w_315 w_316 w_317 (by decide) rfl rfl rfl (Nat.le_of_ble_eq_true rfl) fun x3 => ?_
  refine zG_run t_Main [(.aload_n 0, 0, 0), (.getfield 58, 0, 7), (.getfield 139, 7, 0), (.getfield 145, 8, 0)] (35, [some (zr (some (0, 0)))], [zi (x3.1 156 0)], x3) (by decide +kernel) rfl ?_
  exact zG_ret (r := some (zi (x3.1 156 0))) rfl (zrd_i rfl (by decide +kernel))
theorem c_Main_take {l : Launch} {X : zX} (hl : l.stackTraces = false) {h : zH} {x : Int32 × zH} (hx : f_Main_take h = some x) : zCt l (true, 2) 2 m_Main_take X 0 0 [zr (some (0, 0))] h ((fun a => (.inl (some (zi a.1)), a.2) : Int32 × zH → zF) x) :=
  zG_ct (R := fun a => (.inl (some (zi a.1)), a.2)) (x := x) ok_Main_take hl (Nat.le_of_ble_eq_true rfl) hx (k_Main_take hl)
def m_Catalog_isRow : zM := (({ cls := "ScanPacker$Catalog", name := "isRow", desc := "(I)Z" } : Jvm.MethodName), prog_2_method_5_code, 2, (Option.some Jvm.ClassFile.FieldType.boolean), [], 1)
theorem ok_Catalog_isRow : zMok m_Catalog_isRow := ⟨by decide +kernel, zW_of 779 (by decide +kernel) (by decide +kernel), zW_of 126 (by decide +kernel) (by decide +kernel), by decide, by decide +kernel, by decide +kernel⟩
set_option maxRecDepth 20000 in
theorem k_Catalog_isRow {l : Launch} {X : zX} (hl : l.stackTraces = false) {h : zH} {v1 : Int32} : zGl l m_Catalog_isRow X 0 0 (f_Catalog_isRow h v1) (0, [some (zr (some (1, 74))), some (zi v1)], [], h) (fun x => .inr ((fun a => (.inl (some (zi a)), h) : Int32 → zF) x)) := by
  unfold f_Catalog_isRow
  refine zG_run t_Catalog [(.iload_n 1, 0, 0)] (1, [some (zr (some (1, 74))), some (zi v1)], [zi v1], h) (by decide +kernel) rfl ?_
  refine zG_if (op := .lt) (off := 15) (tgt := 16) (by decide +kernel) rfl Iff.rfl (fun c2 => ?_) (fun c2 => ?_)
  · refine zG_run t_Catalog [(.iconst 0, 0, 0)] (17, [some (zr (some (1, 74))), some (zi v1)], [zi 0], h) (by decide +kernel) rfl ?_
    exact zG_ret (r := some (zi 0)) rfl (zrd_z rfl (by decide +kernel) rfl)
  · refine zG_run t_Catalog [(.iload_n 1, 0, 0), (.aload_n 0, 0, 0), (.getfield 59, 1, 1)] (9, [some (zr (some (1, 74))), some (zi v1)], [zi (h.1 74 1), zi v1], h) (by decide +kernel) rfl ?_
    refine zG_icmp (op := .ge) (off := 7) (tgt := 16) (by decide +kernel) rfl Iff.rfl (fun c1 => ?_) (fun c1 => ?_)
    · refine zG_run t_Catalog [(.iconst 0, 0, 0)] (17, [some (zr (some (1, 74))), some (zi v1)], [zi 0], h) (by decide +kernel) rfl ?_
      exact zG_ret (r := some (zi 0)) rfl (zrd_z rfl (by decide +kernel) rfl)
    · refine zG_run t_Catalog [(.iconst 1, 0, 0), (.goto 4, 0, 0)] (17, [some (zr (some (1, 74))), some (zi v1)], [zi 1], h) (by decide +kernel) rfl ?_
      exact zG_ret (r := some (zi 1)) rfl (zrd_z rfl (by decide +kernel) rfl)
theorem c_Catalog_isRow {l : Launch} {X : zX} (hl : l.stackTraces = false) {h : zH} {v1 : Int32} {x : Int32} (hx : f_Catalog_isRow h v1 = some x) : zCt l (true, 2) 2 m_Catalog_isRow X 0 0 [zr (some (1, 74)), zi v1] h ((fun a => (.inl (some (zi a)), h) : Int32 → zF) x) :=
  zG_ct (R := fun a => (.inl (some (zi a)), h)) (x := x) ok_Catalog_isRow hl (Nat.le_of_ble_eq_true rfl) hx (k_Catalog_isRow hl)
def m_Net_longestChain : zM := (({ cls := "ScanPacker$Net", name := "longestChain", desc := "()I" } : Jvm.MethodName), prog_4_method_12_code, 3, (Option.some Jvm.ClassFile.FieldType.int), [], 2)
theorem ok_Net_longestChain : zMok m_Net_longestChain := ⟨by decide +kernel, zW_of 787 (by decide +kernel) (by decide +kernel), zW_of 125 (by decide +kernel) (by decide +kernel), by decide, by decide +kernel, by decide +kernel⟩
set_option maxRecDepth 20000 in
theorem k_Net_longestChain_b4 {l : Launch} {X : zX} (hl : l.stackTraces = false) {o : Nat} {h : zH} {v1 : Int32} {v2 : Int32} : zGl l m_Net_longestChain X 0 0 (f_Net_longestChain_b4 o h v1 v2) (4, [some (zr (some (3, o))), some (zi v1), some (zi v2)], [], h) (Sum.elim (fun s : Int32 × Int32 => .inl (4, [some (zr (some (3, o))), some (zi s.1), some (zi s.2)], [], h)) (fun y : Int32 => .inl (29, [none, some (zi y), none], [], h))) := by
  unfold f_Net_longestChain_b4
  refine zG_run t_Net [(.iload_n 2, 0, 0), (.aload_n 0, 0, 0), (.getfield 48, 3, 2)] (9, [some (zr (some (3, o))), some (zi v1), some (zi v2)], [zi (h.1 o 2), zi v2], h) (by decide +kernel) rfl ?_
  refine zG_icmp (op := .ge) (off := 20) (tgt := 29) (by decide +kernel) rfl Iff.rfl (fun c3 => ?_) (fun c3 => ?_)
  · exact zG_end (L' := [none, some (zi v1), none]) rfl (And.intro rfl trivial)
  · refine zG_run t_Net [(.iload_n 1, 0, 0), (.aload_n 0, 0, 0), (.getfield 38, 3, 15), (.iload_n 2, 0, 0)] (18, [some (zr (some (3, o))), some (zi v1), some (zi v2)], [zi v2, zr (some (31, (o + 34))), zi v1], h) (by decide +kernel) rfl ?_
    refine zG_ald (v := zi (h.1 (o + 34) v2.toNatClampNeg)) (n := 3) rfl (by decide +kernel) rfl rfl fun hb1 => ?_
    refine zG_callS (idx := 76) (R := (fun a => (some (zi a), h))) (as := [zi v1, zi (h.1 (o + 34) v2.toNatClampNeg)]) (rest := []) (n := 2) (fun a ha => c_Math_max hl ha) (by decide +kernel) ⟨ok_Math_max, by decide, by decide +kernel⟩ rfl w_321 w_279 rfl rfl (Nat.le_of_ble_eq_true rfl) fun x2 => ?_
    refine zG_run t_Net [(.istore_n 1, 0, 0), (.iinc 2 1, 0, 0), (.goto (-22), 0, 0)] (4, [some (zr (some (3, o))), some (zi x2), some (zi (v2 + 1))], [], h) (by decide +kernel) rfl ?_
    exact zG_end (L' := [some (zr (some (3, o))), some (zi x2), some (zi (v2 + 1))]) rfl (And.intro rfl (And.intro rfl (And.intro rfl trivial)))
set_option maxRecDepth 20000 in
theorem k_Net_longestChain {l : Launch} {X : zX} (hl : l.stackTraces = false) {o : Nat} {h : zH} : zGl l m_Net_longestChain X 0 0 (f_Net_longestChain o h) (0, [some (zr (some (3, o))), none, none], [], h) (fun x => .inr ((fun a => (.inl (some (zi a)), h) : Int32 → zF) x)) := by
  unfold f_Net_longestChain
  refine zG_run t_Net [(.iconst 0, 0, 0), (.istore_n 1, 0, 0), (.iconst 0, 0, 0), (.istore_n 2, 0, 0)] (4, [some (zr (some (3, o))), some (zi 0), some (zi 0)], [], h) (by decide +kernel) rfl ?_
  refine zG_forget (L' := [some (zr (some (3, o))), some (zi 0), some (zi 0)]) (And.intro rfl (And.intro rfl (And.intro rfl trivial))) ?_
  refine zG_bind (fun y : Int32 => (29, [none, some (zi y), none], [], h)) (zG_iter (fun s : Int32 × Int32 => (4, [some (zr (some (3, o))), some (zi s.1), some (zi s.2)], [], h)) fun s => k_Net_longestChain_b4 hl) (fun y5 => ?_)
  refine zG_run t_Net [(.iload_n 1, 0, 0)] (30, [none, some (zi y5), none], [zi y5], h) (by decide +kernel) rfl ?_
  exact zG_ret (r := some (zi y5)) rfl (zrd_i rfl (by decide +kernel))
theorem c_Net_longestChain {l : Launch} {X : zX} (hl : l.stackTraces = false) {o : Nat} {h : zH} {x : Int32} (hx : f_Net_longestChain o h = some x) : zCt l (true, 2) 2 m_Net_longestChain X 0 0 [zr (some (3, o))] h ((fun a => (.inl (some (zi a)), h) : Int32 → zF) x) :=
  zG_ct (R := fun a => (.inl (some (zi a)), h)) (x := x) ok_Net_longestChain hl (Nat.le_of_ble_eq_true rfl) hx (k_Net_longestChain hl)
def m_State_loadRow : zM := (({ cls := "ScanPacker$State", name := "loadRow", desc := "(LScanPacker$Net;I)I" } : Jvm.MethodName), prog_9_method_6_code, 4, (Option.some Jvm.ClassFile.FieldType.int), [], 3)
theorem ok_State_loadRow : zMok m_State_loadRow := ⟨by decide +kernel, zW_of 783 (by decide +kernel) (by decide +kernel), zW_of 132 (by decide +kernel) (by decide +kernel), by decide, by decide +kernel, by decide +kernel⟩
set_option maxRecDepth 20000 in
theorem k_State_loadRow {l : Launch} {X : zX} (hl : l.stackTraces = false) {o : Nat} {o1 : Nat} {h : zH} {v2 : Int32} : zGl l m_State_loadRow X 0 0 (f_State_loadRow o o1 h v2) (0, [some (zr (some (8, o))), some (zr (some (3, o1))), some (zi v2), none], [], h) (fun x => .inr ((fun a => (.inl (some (zi a.1)), a.2) : Int32 × zH → zF) x)) := by
  unfold f_State_loadRow
  refine zG_run t_State [(.aload_n 1, 0, 0)] (1, [some (zr (some (8, o))), some (zr (some (3, o1))), some (zi v2), none], [zr (some (3, o1))], h) (by decide +kernel) rfl ?_
  refine zG_callV (idx := 61) (R := (fun a => (some (zi a), h))) (as := []) (rest := []) (n := 0) (fun a ha => c_Net_longestChain hl ha) (by decide +kernel) ⟨ok_Net_longestChain, by decide, by decide +kernel⟩ rfl w_322 w_323 w_324 (by decide) rfl rfl rfl (Nat.le_of_ble_eq_true rfl) fun x1 => ?_
  refine zG_bind (fun y => (10, [some (zr (some (8, o))), some (zr (some (3, o1))), some (zi v2), some (zi x1)], [], y)) (zG_run t_State [(.istore_n 3, 0, 0), (.aload_n 0, 0, 0), (.iload_n 2, 0, 0), (.putfield 19, 8, 0)] (10, [some (zr (some (8, o))), some (zr (some (3, o1))), some (zi v2), some (zi x1)], [], zsI h o 0 v2) (by decide +kernel) rfl (zG_end (L' := [some (zr (some (8, o))), some (zr (some (3, o1))), some (zi v2), some (zi x1)]) rfl (And.intro rfl (And.intro rfl (And.intro rfl (And.intro rfl trivial)))))) fun h2 => ?_
  refine zG_bind (fun y => (20, [some (zr (some (8, o))), some (zr (some (3, o1))), some (zi v2), some (zi x1)], [], y)) (zG_run t_State [(.aload_n 0, 0, 0), (.dup, 0, 0), (.getfield 22, 8, 1), (.iload_n 3, 0, 0), (.iadd, 0, 0), (.putfield 22, 8, 1)] (20, [some (zr (some (8, o))), some (zr (some (3, o1))), some (zi v2), some (zi x1)], [], zsI h2 o 1 ((h2.1 o 1) + x1)) (by decide +kernel) rfl (zG_end (L' := [some (zr (some (8, o))), some (zr (some (3, o1))), some (zi v2), some (zi x1)]) rfl (And.intro rfl (And.intro rfl (And.intro rfl (And.intro rfl trivial)))))) fun h3 => ?_
  refine zG_run t_State [(.iload_n 3, 0, 0)] (21, [some (zr (some (8, o))), some (zr (some (3, o1))), some (zi v2), some (zi x1)], [zi x1], h3) (by decide +kernel) rfl ?_
  exact zG_ret (r := some (zi x1)) rfl (zrd_i rfl (by decide +kernel))
theorem c_State_loadRow {l : Launch} {X : zX} (hl : l.stackTraces = false) {o : Nat} {o1 : Nat} {h : zH} {v2 : Int32} {x : Int32 × zH} (hx : f_State_loadRow o o1 h v2 = some x) : zCt l (true, 2) 2 m_State_loadRow X 0 0 [zr (some (8, o)), zr (some (3, o1)), zi v2] h ((fun a => (.inl (some (zi a.1)), a.2) : Int32 × zH → zF) x) :=
  zG_ct (R := fun a => (.inl (some (zi a.1)), a.2)) (x := x) ok_State_loadRow hl (Nat.le_of_ble_eq_true rfl) hx (k_State_loadRow hl)
def m_Main_load : zM := (({ cls := "ScanPacker", name := "load", desc := "(I)I" } : Jvm.MethodName), prog_1_method_19_code, 2, (Option.some Jvm.ClassFile.FieldType.int), [], 4)
theorem ok_Main_load : zMok m_Main_load := ⟨by decide +kernel, zW_of 775 (by decide +kernel) (by decide +kernel), zW_of 122 (by decide +kernel) (by decide +kernel), by decide, by decide +kernel, by decide +kernel⟩
set_option maxRecDepth 20000 in
theorem k_Main_load {l : Launch} {X : zX} (hl : l.stackTraces = false) {h : zH} {v1 : Int32} : zGl l m_Main_load X 0 0 (f_Main_load h v1) (0, [some (zr (some (0, 0))), some (zi v1)], [], h) (fun x => .inr ((fun a => (.inl (some (zi a.1)), a.2) : Int32 × zH → zF) x)) := by
  unfold f_Main_load
  refine zG_run t_Main [(.aload_n 0, 0, 0), (.getfield 30, 0, 3), (.iload_n 1, 0, 0)] (5, [some (zr (some (0, 0))), some (zi v1)], [zi v1, zr (some (1, 74))], h) (by decide +kernel) rfl ?_
  refine zG_callV (idx := 288) (R := (fun a => (some (zi a), h))) (as := [zi v1]) (rest := []) (n := 1) (fun a ha => c_Catalog_isRow hl ha) (by decide +kernel) ⟨ok_Catalog_isRow, by decide, by decide +kernel⟩ rfl w_318 w_319 w_320 (by decide) rfl rfl rfl (Nat.le_of_ble_eq_true rfl) fun x1 => ?_
  refine zG_if (op := .ne) (off := 8) (tgt := 16) (by decide +kernel) rfl Iff.rfl (fun c6 => ?_) (fun c6 => ?_)
  · refine zG_run t_Main [(.aload_n 0, 0, 0), (.getfield 58, 0, 7)] (20, [some (zr (some (0, 0))), some (zi v1)], [zr (some (7, 155))], h) (by decide +kernel) rfl ?_
    refine zG_callV (idx := 269) (R := (fun a => (none, a))) (as := []) (rest := []) (n := 0) (fun a ha => c_Session_keepState hl ha) (by decide +kernel) ⟨ok_Session_keepState, by decide, by decide +kernel⟩ rfl w_303 w_304 w_305 (by decide) rfl rfl rfl (Nat.le_of_ble_eq_true rfl) fun x2 => ?_
    refine zG_run t_Main [(.aload_n 0, 0, 0), (.getfield 58, 0, 7), (.getfield 139, 7, 0), (.aload_n 0, 0, 0), (.getfield 19, 0, 1)] (34, [some (zr (some (0, 0))), some (zi v1)], [zr (x2.2.2.1 0 1), zr (some (8, 156))], x2) (by decide +kernel) rfl ?_
    refine zG_dyn fun w3 _ => ?_
    refine zG_run t_Main [(.iload_n 1, 0, 0)] (35, [some (zr (some (0, 0))), some (zi v1)], [zi v1, zr (some (3, w3)), zr (some (8, 156))], x2) (by decide +kernel) rfl ?_
    refine zG_callV (idx := 291) (R := (fun a => (some (zi a.1), a.2))) (as := [zr (some (3, w3)), zi v1]) (rest := []) (n := 2) (fun a ha => c_State_loadRow hl ha) (by decide +kernel) ⟨ok_State_loadRow, by decide, by decide +kernel⟩ rfl w_325 w_326 w_327 (by decide) rfl rfl rfl (Nat.le_of_ble_eq_true rfl) fun x4 => ?_
    exact zG_ret (r := some (zi x4.1)) rfl (zrd_i rfl (by decide +kernel))
  · refine zG_run t_Main [(.aload_n 0, 0, 0)] (12, [some (zr (some (0, 0))), some (zi v1)], [zr (some (0, 0))], h) (by decide +kernel) rfl ?_
    refine zG_callV (idx := 265) (R := (fun a => (some (zi a.1), a.2))) (as := []) (rest := []) (n := 0) (fun a ha => c_Main_refuseAct hl ha) (by decide +kernel) ⟨ok_Main_refuseAct, by decide, by decide +kernel⟩ rfl w_295 w_296 w_297 (by decide) rfl rfl rfl (Nat.le_of_ble_eq_true rfl) fun x5 => ?_
    exact zG_ret (r := some (zi x5.1)) rfl (zrd_i rfl (by decide +kernel))
theorem c_Main_load {l : Launch} {X : zX} (hl : l.stackTraces = false) {h : zH} {v1 : Int32} {x : Int32 × zH} (hx : f_Main_load h v1 = some x) : zCt l (true, 2) 2 m_Main_load X 0 0 [zr (some (0, 0)), zi v1] h ((fun a => (.inl (some (zi a.1)), a.2) : Int32 × zH → zF) x) :=
  zG_ct (R := fun a => (.inl (some (zi a.1)), a.2)) (x := x) ok_Main_load hl (Nat.le_of_ble_eq_true rfl) hx (k_Main_load hl)
def m_State_applyInputs : zM := (({ cls := "ScanPacker$State", name := "applyInputs", desc := "(LScanPacker$Catalog;)I" } : Jvm.MethodName), prog_9_method_7_code, 4, (Option.some Jvm.ClassFile.FieldType.int), [], 2)
theorem ok_State_applyInputs : zMok m_State_applyInputs := ⟨by decide +kernel, zW_of 798 (by decide +kernel) (by decide +kernel), zW_of 132 (by decide +kernel) (by decide +kernel), by decide, by decide +kernel, by decide +kernel⟩
set_option maxRecDepth 20000 in
theorem k_State_applyInputs {l : Launch} {X : zX} (hl : l.stackTraces = false) {o : Nat} {h : zH} : zGl l m_State_applyInputs X 0 0 (f_State_applyInputs o h) (0, [some (zr (some (8, o))), some (zr (some (1, 74))), none, none], [], h) (fun x => .inr ((fun a => (.inl (some (zi a.1)), a.2) : Int32 × zH → zF) x)) := by
  unfold f_State_applyInputs
  refine zG_run t_State [(.aload_n 1, 0, 0), (.aload_n 0, 0, 0), (.getfield 19, 8, 0)] (5, [some (zr (some (8, o))), some (zr (some (1, 74))), none, none], [zi (h.1 o 0), zr (some (1, 74))], h) (by decide +kernel) rfl ?_
  refine zG_callV (idx := 65) (R := (fun a => (some (zl a), h))) (as := [zi (h.1 o 0)]) (rest := []) (n := 1) (fun a ha => c_Catalog_caughtBy hl ha) (by decide +kernel) ⟨ok_Catalog_caughtBy, by decide, by decide +kernel⟩ rfl w_328 w_198 w_199 (by decide) rfl rfl rfl (Nat.le_of_ble_eq_true rfl) fun x1 => ?_
  refine zG_run t_State [(.aload_n 0, 0, 0), (.getfield 28, 8, 4)] (12, [some (zr (some (8, o))), some (zr (some (1, 74))), none, none], [zl (h.2.1 o 4), zl x1], h) (by decide +kernel) rfl ?_
  refine zG_ldc2 (v := (-1)) (by decide +kernel) w_329 ?_
  refine zG_bind (fun y => (28, [some (zr (some (8, o))), some (zr (some (1, 74))), some (zl (x1 &&& ((h.2.1 o 4) ^^^ (-1)))), none], [], y)) (zG_run t_State [(.lxor, 0, 0), (.land, 0, 0), (.lstore_n 2, 0, 0), (.aload_n 0, 0, 0), (.dup, 0, 0), (.getfield 28, 8, 4), (.lload_n 2, 0, 0), (.lor, 0, 0), (.putfield 28, 8, 4)] (28, [some (zr (some (8, o))), some (zr (some (1, 74))), some (zl (x1 &&& ((h.2.1 o 4) ^^^ (-1)))), none], [], zsL h o 4 ((h.2.1 o 4) ||| (x1 &&& ((h.2.1 o 4) ^^^ (-1))))) (by decide +kernel) rfl (zG_end (L' := [some (zr (some (8, o))), some (zr (some (1, 74))), some (zl (x1 &&& ((h.2.1 o 4) ^^^ (-1)))), none]) rfl (And.intro rfl (And.intro rfl (And.intro rfl trivial))))) fun h2 => ?_
  refine zG_run t_State [(.lload_n 2, 0, 0)] (29, [some (zr (some (8, o))), some (zr (some (1, 74))), some (zl (x1 &&& ((h.2.1 o 4) ^^^ (-1)))), none], [zl (x1 &&& ((h.2.1 o 4) ^^^ (-1)))], h2) (by decide +kernel) rfl ?_
  refine zG_callS (idx := 71) (R := (fun a => (some (zi a), h2))) (as := [zl (x1 &&& ((h.2.1 o 4) ^^^ (-1)))]) (rest := []) (n := 1) (fun a ha => c_Long_bitCount hl ha) (by decide +kernel) ⟨ok_Long_bitCount, by decide, by decide +kernel⟩ rfl w_330 w_182 rfl rfl (Nat.le_of_ble_eq_true rfl) fun x3 => ?_
  exact zG_ret (r := some (zi x3)) rfl (zrd_i rfl (by decide +kernel))
theorem c_State_applyInputs {l : Launch} {X : zX} (hl : l.stackTraces = false) {o : Nat} {h : zH} {x : Int32 × zH} (hx : f_State_applyInputs o h = some x) : zCt l (true, 2) 2 m_State_applyInputs X 0 0 [zr (some (8, o)), zr (some (1, 74))] h ((fun a => (.inl (some (zi a.1)), a.2) : Int32 × zH → zF) x) :=
  zG_ct (R := fun a => (.inl (some (zi a.1)), a.2)) (x := x) ok_State_applyInputs hl (Nat.le_of_ble_eq_true rfl) hx (k_State_applyInputs hl)
def m_Main_apply : zM := (({ cls := "ScanPacker", name := "apply", desc := "()I" } : Jvm.MethodName), prog_1_method_20_code, 1, (Option.some Jvm.ClassFile.FieldType.int), [], 3)
theorem ok_Main_apply : zMok m_Main_apply := ⟨by decide +kernel, zW_of 794 (by decide +kernel) (by decide +kernel), zW_of 122 (by decide +kernel) (by decide +kernel), by decide, by decide +kernel, by decide +kernel⟩
set_option maxRecDepth 20000 in
theorem k_Main_apply {l : Launch} {X : zX} (hl : l.stackTraces = false) {h : zH} : zGl l m_Main_apply X 0 0 (f_Main_apply h) (0, [some (zr (some (0, 0)))], [], h) (fun x => .inr ((fun a => (.inl (some (zi a.1)), a.2) : Int32 × zH → zF) x)) := by
  unfold f_Main_apply
  refine zG_run t_Main [(.aload_n 0, 0, 0), (.getfield 58, 0, 7)] (4, [some (zr (some (0, 0)))], [zr (some (7, 155))], h) (by decide +kernel) rfl ?_
  refine zG_callV (idx := 269) (R := (fun a => (none, a))) (as := []) (rest := []) (n := 0) (fun a ha => c_Session_keepState hl ha) (by decide +kernel) ⟨ok_Session_keepState, by decide, by decide +kernel⟩ rfl w_303 w_304 w_305 (by decide) rfl rfl rfl (Nat.le_of_ble_eq_true rfl) fun x1 => ?_
  refine zG_run t_Main [(.aload_n 0, 0, 0), (.getfield 58, 0, 7), (.getfield 139, 7, 0), (.aload_n 0, 0, 0), (.getfield 30, 0, 3)] (18, [some (zr (some (0, 0)))], [zr (some (1, 74)), zr (some (8, 156))], x1) (by decide +kernel) rfl ?_
  refine zG_callV (idx := 294) (R := (fun a => (some (zi a.1), a.2))) (as := [zr (some (1, 74))]) (rest := []) (n := 1) (fun a ha => c_State_applyInputs hl ha) (by decide +kernel) ⟨ok_State_applyInputs, by decide, by decide +kernel⟩ rfl w_331 w_332 w_333 (by decide) rfl rfl rfl (Nat.le_of_ble_eq_true rfl) fun x2 => ?_
  exact zG_ret (r := some (zi x2.1)) rfl (zrd_i rfl (by decide +kernel))
theorem c_Main_apply {l : Launch} {X : zX} (hl : l.stackTraces = false) {h : zH} {x : Int32 × zH} (hx : f_Main_apply h = some x) : zCt l (true, 2) 2 m_Main_apply X 0 0 [zr (some (0, 0))] h ((fun a => (.inl (some (zi a.1)), a.2) : Int32 × zH → zF) x) :=
  zG_ct (R := fun a => (.inl (some (zi a.1)), a.2)) (x := x) ok_Main_apply hl (Nat.le_of_ble_eq_true rfl) hx (k_Main_apply hl)
def m_Main_defect : zM := (({ cls := "ScanPacker", name := "defect", desc := "(I)I" } : Jvm.MethodName), prog_1_method_21_code, 3, (Option.some Jvm.ClassFile.FieldType.int), [], 7)
theorem ok_Main_defect : zMok m_Main_defect := ⟨by decide +kernel, zW_of 1296 (by decide +kernel) (by decide +kernel), zW_of 122 (by decide +kernel) (by decide +kernel), by decide, by decide +kernel, by decide +kernel⟩
set_option maxRecDepth 20000 in
theorem k_Main_defect_j10 {l : Launch} {X : zX} (hl : l.stackTraces = false) {h : zH} {v1 : Int32} : zGl l m_Main_defect X 0 0 (f_Main_defect_j10 h v1) (10, [some (zr (some (0, 0))), some (zi v1), none], [], h) (fun x => .inr ((Sum.elim (fun a => (.inl (some (zi a.1)), a.2)) (fun q => (.inr q.1, q.2)) : (Int32 × zH) ⊕ (Nat × zH) → zF) x)) := by
  unfold f_Main_defect_j10
  refine zG_run t_Main [(.aload_n 0, 0, 0), (.getfield 58, 0, 7)] (14, [some (zr (some (0, 0))), some (zi v1), none], [zr (some (7, 155))], h) (by decide +kernel) rfl ?_
  refine zG_callV (idx := 269) (R := (fun a => (none, a))) (as := []) (rest := []) (n := 0) (fun a ha => c_Session_keepState hl ha) (by decide +kernel) ⟨ok_Session_keepState, by decide, by decide +kernel⟩ rfl w_303 w_304 w_305 (by decide) rfl rfl rfl (Nat.le_of_ble_eq_true rfl) fun x1 => ?_
  refine zG_bind (fun y => (39, [some (zr (some (0, 0))), some (zi v1), some (zi (x1.1 156 2))], [], y)) (zG_run t_Main [(.aload_n 0, 0, 0), (.getfield 58, 0, 7), (.getfield 139, 7, 0), (.getfield 142, 8, 2), (.istore_n 2, 0, 0), (.aload_n 0, 0, 0), (.getfield 58, 0, 7), (.getfield 139, 7, 0), (.iload_n 1, 0, 0), (.putfield 142, 8, 2)] (39, [some (zr (some (0, 0))), some (zi v1), some (zi (x1.1 156 2))], [], zsI x1 156 2 v1) (by decide +kernel) rfl (zG_end (L' := [some (zr (some (0, 0))), some (zi v1), some (zi (x1.1 156 2))]) rfl (And.intro rfl (And.intro rfl (And.intro rfl trivial))))) fun h2 => ?_
  refine zG_run t_Main [(.iload_n 2, 0, 0)] (40, [some (zr (some (0, 0))), some (zi v1), some (zi (x1.1 156 2))], [zi (x1.1 156 2)], h2) (by decide +kernel) rfl ?_
  exact zG_ret (r := some (zi (x1.1 156 2))) rfl (zrd_i rfl (by decide +kernel))
set_option maxRecDepth 20000 in
theorem k_Main_defect {l : Launch} {X : zX} (hl : l.stackTraces = false) {h : zH} {v1 : Int32} : zGl l m_Main_defect X 1 6 (f_Main_defect h v1) (0, [some (zr (some (0, 0))), some (zi v1), none], [], h) (fun x => .inr ((Sum.elim (fun a => (.inl (some (zi a.1)), a.2)) (fun q => (.inr q.1, q.2)) : (Int32 × zH) ⊕ (Nat × zH) → zF) x)) := by
  unfold f_Main_defect
  refine zG_run t_Main [(.iload_n 1, 0, 0), (.iconst (-1), 0, 0)] (2, [some (zr (some (0, 0))), some (zi v1), none], [zi (-1), zi v1], h) (by decide +kernel) rfl ?_
  refine zG_icmp (op := .eq) (off := 8) (tgt := 10) (by decide +kernel) rfl Iff.rfl (fun c4 => ?_) (fun c4 => ?_)
  · refine zG_mono (bc' := 0) (bs' := 0) (by decide) (by decide) ?_
    exact zG_forget (L' := [some (zr (some (0, 0))), some (zi v1), none]) (And.intro rfl (And.intro rfl trivial)) (k_Main_defect_j10 hl)
  · refine zG_run t_Main [(.aload_n 0, 0, 0), (.iload_n 1, 0, 0)] (7, [some (zr (some (0, 0))), some (zi v1), none], [zi v1, zr (some (0, 0))], h) (by decide +kernel) rfl ?_
    refine zG_mono (bc' := 0 + 1) (bs' := 0 + 6) (by decide) (by decide) ?_
    refine zG_callX (idx := 175) (R := (fun a => none)) (as := [zi v1]) (rest := []) (n := 1) (fun a h1 ha => c_Main_needFault hl ha) (fun k h1 ha => c_Main_needFault hl ha) (by decide +kernel) ⟨ok_Main_needFault, by decide, by decide +kernel⟩ rfl rfl w_236 w_237 w_238 (by decide) rfl rfl rfl (Nat.le_of_ble_eq_true rfl) (fun _ => rfl) fun x3 => ?_
    refine zG_mono (bc' := 0) (bs' := 0) (by decide) (by decide) ?_
    exact zG_forget (L' := [some (zr (some (0, 0))), some (zi v1), none]) (And.intro rfl (And.intro rfl trivial)) (k_Main_defect_j10 hl)
theorem c_Main_defect {l : Launch} {X : zX} (hl : l.stackTraces = false) {h : zH} {v1 : Int32} {x : (Int32 × zH) ⊕ (Nat × zH)} (hx : f_Main_defect h v1 = some x) : zCt l (true, 2) 2 m_Main_defect X 1 6 [zr (some (0, 0)), zi v1] h ((Sum.elim (fun a => (.inl (some (zi a.1)), a.2)) (fun q => (.inr q.1, q.2)) : (Int32 × zH) ⊕ (Nat × zH) → zF) x) :=
  zG_ct (R := Sum.elim (fun a => (.inl (some (zi a.1)), a.2)) (fun q => (.inr q.1, q.2))) (x := x) ok_Main_defect hl (Nat.le_of_ble_eq_true rfl) hx (k_Main_defect hl)
def m_Main_fill : zM := (({ cls := "ScanPacker", name := "fill", desc := "(I)I" } : Jvm.MethodName), prog_1_method_22_code, 3, (Option.some Jvm.ClassFile.FieldType.int), [], 3)
theorem ok_Main_fill : zMok m_Main_fill := ⟨by decide +kernel, zW_of 813 (by decide +kernel) (by decide +kernel), zW_of 122 (by decide +kernel) (by decide +kernel), by decide, by decide +kernel, by decide +kernel⟩
set_option maxRecDepth 20000 in
theorem k_Main_fill_j9 {l : Launch} {X : zX} (hl : l.stackTraces = false) {h : zH} : zGl l m_Main_fill X 0 0 (f_Main_fill_j9 h) (9, [some (zr (some (0, 0))), none, none], [], h) (fun x => .inr ((fun a => (.inl (some (zi a.1)), a.2) : Int32 × zH → zF) x)) := by
  unfold f_Main_fill_j9
  refine zG_run t_Main [(.aload_n 0, 0, 0)] (10, [some (zr (some (0, 0))), none, none], [zr (some (0, 0))], h) (by decide +kernel) rfl ?_
  refine zG_callV (idx := 265) (R := (fun a => (some (zi a.1), a.2))) (as := []) (rest := []) (n := 0) (fun a ha => c_Main_refuseAct hl ha) (by decide +kernel) ⟨ok_Main_refuseAct, by decide, by decide +kernel⟩ rfl w_295 w_296 w_297 (by decide) rfl rfl rfl (Nat.le_of_ble_eq_true rfl) fun x1 => ?_
  exact zG_ret (r := some (zi x1.1)) rfl (zrd_i rfl (by decide +kernel))
set_option maxRecDepth 20000 in
theorem k_Main_fill {l : Launch} {X : zX} (hl : l.stackTraces = false) {h : zH} {v1 : Int32} : zGl l m_Main_fill X 0 0 (f_Main_fill h v1) (0, [some (zr (some (0, 0))), some (zi v1), none], [], h) (fun x => .inr ((fun a => (.inl (some (zi a.1)), a.2) : Int32 × zH → zF) x)) := by
  unfold f_Main_fill
  refine zG_run t_Main [(.iload_n 1, 0, 0)] (1, [some (zr (some (0, 0))), some (zi v1), none], [zi v1], h) (by decide +kernel) rfl ?_
  refine zG_if (op := .lt) (off := 8) (tgt := 9) (by decide +kernel) rfl Iff.rfl (fun c5 => ?_) (fun c5 => ?_)
  · exact zG_forget (L' := [some (zr (some (0, 0))), none, none]) (And.intro rfl trivial) (k_Main_fill_j9 hl)
  · refine zG_run t_Main [(.iload_n 1, 0, 0), (.iconst 2, 0, 0)] (6, [some (zr (some (0, 0))), some (zi v1), none], [zi 2, zi v1], h) (by decide +kernel) rfl ?_
    refine zG_icmp (op := .le) (off := 8) (tgt := 14) (by decide +kernel) rfl Iff.rfl (fun c4 => ?_) (fun c4 => ?_)
    · refine zG_run t_Main [(.aload_n 0, 0, 0), (.getfield 58, 0, 7)] (18, [some (zr (some (0, 0))), some (zi v1), none], [zr (some (7, 155))], h) (by decide +kernel) rfl ?_
      refine zG_callV (idx := 269) (R := (fun a => (none, a))) (as := []) (rest := []) (n := 0) (fun a ha => c_Session_keepState hl ha) (by decide +kernel) ⟨ok_Session_keepState, by decide, by decide +kernel⟩ rfl w_303 w_304 w_305 (by decide) rfl rfl rfl (Nat.le_of_ble_eq_true rfl) fun x2 => ?_
      refine zG_bind (fun y => (43, [some (zr (some (0, 0))), some (zi v1), some (zi (x2.1 156 3))], [], y)) (zG_run t_Main [(.aload_n 0, 0, 0), (.getfield 58, 0, 7), (.getfield 139, 7, 0), (.getfield 298, 8, 3), (.istore_n 2, 0, 0), (.aload_n 0, 0, 0), (.getfield 58, 0, 7), (.getfield 139, 7, 0), (.iload_n 1, 0, 0), (.putfield 298, 8, 3)] (43, [some (zr (some (0, 0))), some (zi v1), some (zi (x2.1 156 3))], [], zsI x2 156 3 v1) (by decide +kernel) rfl (zG_end (L' := [some (zr (some (0, 0))), some (zi v1), some (zi (x2.1 156 3))]) rfl (And.intro rfl (And.intro rfl (And.intro rfl trivial))))) fun h3 => ?_
      refine zG_run t_Main [(.iload_n 2, 0, 0)] (44, [some (zr (some (0, 0))), some (zi v1), some (zi (x2.1 156 3))], [zi (x2.1 156 3)], h3) (by decide +kernel) rfl ?_
      exact zG_ret (r := some (zi (x2.1 156 3))) rfl (zrd_i rfl (by decide +kernel))
    · exact zG_forget (L' := [some (zr (some (0, 0))), none, none]) (And.intro rfl trivial) (k_Main_fill_j9 hl)
theorem c_Main_fill {l : Launch} {X : zX} (hl : l.stackTraces = false) {h : zH} {v1 : Int32} {x : Int32 × zH} (hx : f_Main_fill h v1 = some x) : zCt l (true, 2) 2 m_Main_fill X 0 0 [zr (some (0, 0)), zi v1] h ((fun a => (.inl (some (zi a.1)), a.2) : Int32 × zH → zF) x) :=
  zG_ct (R := fun a => (.inl (some (zi a.1)), a.2)) (x := x) ok_Main_fill hl (Nat.le_of_ble_eq_true rfl) hx (k_Main_fill hl)
def m_State_canPick : zM := (({ cls := "ScanPacker$State", name := "canPick", desc := "(I)Z" } : Jvm.MethodName), prog_9_method_8_code, 3, (Option.some Jvm.ClassFile.FieldType.boolean), [], 1)
theorem ok_State_canPick : zMok m_State_canPick := ⟨by decide +kernel, zW_of 826 (by decide +kernel) (by decide +kernel), zW_of 132 (by decide +kernel) (by decide +kernel), by decide, by decide +kernel, by decide +kernel⟩
set_option maxRecDepth 20000 in
theorem k_State_canPick_b2 {l : Launch} {X : zX} (hl : l.stackTraces = false) {o : Nat} {h : zH} {v1 : Int32} {v2 : Int32} : zGl l m_State_canPick X 0 0 (f_State_canPick_b2 o h v1 v2) (2, [some (zr (some (8, o))), some (zi v1), some (zi v2)], [], h) (Sum.elim (fun s : Int32 => .inl (2, [some (zr (some (8, o))), some (zi v1), some (zi s)], [], h)) (Sum.elim (fun y : Unit => .inl (20, [none, none, none], [], h)) (fun y : Unit => .inl (28, [some (zr (some (8, o))), none, none], [], h)))) := by
  unfold f_State_canPick_b2
  refine zG_run t_State [(.iload_n 2, 0, 0), (.aload_n 0, 0, 0), (.getfield 32, 8, 5)] (7, [some (zr (some (8, o))), some (zi v1), some (zi v2)], [zi (h.1 o 5), zi v2], h) (by decide +kernel) rfl ?_
  refine zG_icmp (op := .ge) (off := 21) (tgt := 28) (by decide +kernel) rfl Iff.rfl (fun c3 => ?_) (fun c3 => ?_)
  · exact zG_end (L' := [some (zr (some (8, o))), none, none]) rfl (And.intro rfl trivial)
  · refine zG_run t_State [(.aload_n 0, 0, 0), (.getfield 15, 8, 6), (.iload_n 2, 0, 0)] (15, [some (zr (some (8, o))), some (zi v1), some (zi v2)], [zi v2, zr (some (54, (o + 1)))], h) (by decide +kernel) rfl ?_
    refine zG_ald (v := zi (h.1 (o + 1) v2.toNatClampNeg)) (n := 8) rfl (by decide +kernel) rfl rfl fun hb1 => ?_
    refine zG_run t_State [(.iload_n 1, 0, 0)] (17, [some (zr (some (8, o))), some (zi v1), some (zi v2)], [zi v1, zi (h.1 (o + 1) v2.toNatClampNeg)], h) (by decide +kernel) rfl ?_
    refine zG_icmp (op := .ne) (off := 5) (tgt := 22) (by decide +kernel) rfl Iff.rfl (fun c2 => ?_) (fun c2 => ?_)
    · refine zG_run t_State [(.iinc 2 1, 0, 0), (.goto (-23), 0, 0)] (2, [some (zr (some (8, o))), some (zi v1), some (zi (v2 + 1))], [], h) (by decide +kernel) rfl ?_
      exact zG_end (L' := [some (zr (some (8, o))), some (zi v1), some (zi (v2 + 1))]) rfl (And.intro rfl (And.intro rfl (And.intro rfl trivial)))
    · exact zG_end (L' := [none, none, none]) rfl (trivial)
set_option maxRecDepth 20000 in
theorem k_State_canPick {l : Launch} {X : zX} (hl : l.stackTraces = false) {o : Nat} {h : zH} {v1 : Int32} : zGl l m_State_canPick X 0 0 (f_State_canPick o h v1) (0, [some (zr (some (8, o))), some (zi v1), none], [], h) (fun x => .inr ((fun a => (.inl (some (zi a)), h) : Int32 → zF) x)) := by
  unfold f_State_canPick
  refine zG_run t_State [(.iconst 0, 0, 0), (.istore_n 2, 0, 0)] (2, [some (zr (some (8, o))), some (zi v1), some (zi 0)], [], h) (by decide +kernel) rfl ?_
  refine zG_forget (L' := [some (zr (some (8, o))), some (zi v1), some (zi 0)]) (And.intro rfl (And.intro rfl (And.intro rfl trivial))) ?_
  refine zG_bind2 (fun y : Unit => (20, [none, none, none], [], h)) (fun y : Unit => (28, [some (zr (some (8, o))), none, none], [], h)) (zG_iter (fun s : Int32 => (2, [some (zr (some (8, o))), some (zi v1), some (zi s)], [], h)) fun s => k_State_canPick_b2 hl) (fun y5 => ?_) (fun y6 => ?_)
  · refine zG_run t_State [(.iconst 0, 0, 0)] (21, [none, none, none], [zi 0], h) (by decide +kernel) rfl ?_
    exact zG_ret (r := some (zi 0)) rfl (zrd_z rfl (by decide +kernel) rfl)
  · refine zG_run t_State [(.aload_n 0, 0, 0), (.getfield 32, 8, 5), (.bipush 8, 0, 0)] (34, [some (zr (some (8, o))), none, none], [zi 8, zi (h.1 o 5)], h) (by decide +kernel) rfl ?_
    refine zG_icmp (op := .ge) (off := 7) (tgt := 41) (by decide +kernel) rfl Iff.rfl (fun c7 => ?_) (fun c7 => ?_)
    · refine zG_run t_State [(.iconst 0, 0, 0)] (42, [some (zr (some (8, o))), none, none], [zi 0], h) (by decide +kernel) rfl ?_
      exact zG_ret (r := some (zi 0)) rfl (zrd_z rfl (by decide +kernel) rfl)
    · refine zG_run t_State [(.iconst 1, 0, 0), (.goto 4, 0, 0)] (42, [some (zr (some (8, o))), none, none], [zi 1], h) (by decide +kernel) rfl ?_
      exact zG_ret (r := some (zi 1)) rfl (zrd_z rfl (by decide +kernel) rfl)
theorem c_State_canPick {l : Launch} {X : zX} (hl : l.stackTraces = false) {o : Nat} {h : zH} {v1 : Int32} {x : Int32} (hx : f_State_canPick o h v1 = some x) : zCt l (true, 2) 2 m_State_canPick X 0 0 [zr (some (8, o)), zi v1] h ((fun a => (.inl (some (zi a)), h) : Int32 → zF) x) :=
  zG_ct (R := fun a => (.inl (some (zi a)), h)) (x := x) ok_State_canPick hl (Nat.le_of_ble_eq_true rfl) hx (k_State_canPick hl)
def m_State_addPick : zM := (({ cls := "ScanPacker$State", name := "addPick", desc := "(I)I" } : Jvm.MethodName), prog_9_method_9_code, 2, (Option.some Jvm.ClassFile.FieldType.int), [], 1)
theorem ok_State_addPick : zMok m_State_addPick := ⟨by decide +kernel, zW_of 830 (by decide +kernel) (by decide +kernel), zW_of 132 (by decide +kernel) (by decide +kernel), by decide, by decide +kernel, by decide +kernel⟩
set_option maxRecDepth 20000 in
theorem k_State_addPick {l : Launch} {X : zX} (hl : l.stackTraces = false) {o : Nat} {h : zH} {v1 : Int32} : zGl l m_State_addPick X 0 0 (f_State_addPick o h v1) (0, [some (zr (some (8, o))), some (zi v1)], [], h) (fun x => .inr ((fun a => (.inl (some (zi a.1)), a.2) : Int32 × zH → zF) x)) := by
  unfold f_State_addPick
  refine zG_run t_State [(.aload_n 0, 0, 0), (.getfield 15, 8, 6), (.aload_n 0, 0, 0), (.getfield 32, 8, 5), (.iload_n 1, 0, 0)] (9, [some (zr (some (8, o))), some (zi v1)], [zi v1, zi (h.1 o 5), zr (some (54, (o + 1)))], h) (by decide +kernel) rfl ?_
  refine zG_guard fun hb2 => ?_
  refine zG_bind (fun y => (10, [some (zr (some (8, o))), some (zi v1)], [], y)) (zG_astc (h' := zsI h (o + 1) (h.1 o 5).toNatClampNeg v1) rfl (by decide +kernel) hb2 rfl (zG_end (L' := [some (zr (some (8, o))), some (zi v1)]) rfl (And.intro rfl (And.intro rfl trivial)))) fun h1 => ?_
  refine zG_bind (fun y => (20, [some (zr (some (8, o))), some (zi v1)], [], y)) (zG_run t_State [(.aload_n 0, 0, 0), (.dup, 0, 0), (.getfield 32, 8, 5), (.iconst 1, 0, 0), (.iadd, 0, 0), (.putfield 32, 8, 5)] (20, [some (zr (some (8, o))), some (zi v1)], [], zsI h1 o 5 ((h1.1 o 5) + 1)) (by decide +kernel) rfl (zG_end (L' := [some (zr (some (8, o))), some (zi v1)]) rfl (And.intro rfl (And.intro rfl trivial)))) fun h3 => ?_
  refine zG_run t_State [(.aload_n 0, 0, 0), (.getfield 32, 8, 5)] (24, [some (zr (some (8, o))), some (zi v1)], [zi (h3.1 o 5)], h3) (by decide +kernel) rfl ?_
  exact zG_ret (r := some (zi (h3.1 o 5))) rfl (zrd_i rfl (by decide +kernel))
theorem c_State_addPick {l : Launch} {X : zX} (hl : l.stackTraces = false) {o : Nat} {h : zH} {v1 : Int32} {x : Int32 × zH} (hx : f_State_addPick o h v1 = some x) : zCt l (true, 2) 2 m_State_addPick X 0 0 [zr (some (8, o)), zi v1] h ((fun a => (.inl (some (zi a.1)), a.2) : Int32 × zH → zF) x) :=
  zG_ct (R := fun a => (.inl (some (zi a.1)), a.2)) (x := x) ok_State_addPick hl (Nat.le_of_ble_eq_true rfl) hx (k_State_addPick hl)
def m_Main_pick : zM := (({ cls := "ScanPacker", name := "pick", desc := "(I)I" } : Jvm.MethodName), prog_1_method_23_code, 2, (Option.some Jvm.ClassFile.FieldType.int), [], 3)
theorem ok_Main_pick : zMok m_Main_pick := ⟨by decide +kernel, zW_of 817 (by decide +kernel) (by decide +kernel), zW_of 122 (by decide +kernel) (by decide +kernel), by decide, by decide +kernel, by decide +kernel⟩
set_option maxRecDepth 20000 in
theorem k_Main_pick_j61 {l : Launch} {X : zX} (hl : l.stackTraces = false) {h : zH} : zGl l m_Main_pick X 0 0 (f_Main_pick_j61 h) (61, [some (zr (some (0, 0))), none], [], h) (fun x => .inr ((fun a => (.inl (some (zi a.1)), a.2) : Int32 × zH → zF) x)) := by
  unfold f_Main_pick_j61
  refine zG_run t_Main [(.aload_n 0, 0, 0)] (62, [some (zr (some (0, 0))), none], [zr (some (0, 0))], h) (by decide +kernel) rfl ?_
  refine zG_callV (idx := 265) (R := (fun a => (some (zi a.1), a.2))) (as := []) (rest := []) (n := 0) (fun a ha => c_Main_refuseAct hl ha) (by decide +kernel) ⟨ok_Main_refuseAct, by decide, by decide +kernel⟩ rfl w_295 w_296 w_297 (by decide) rfl rfl rfl (Nat.le_of_ble_eq_true rfl) fun x2 => ?_
  exact zG_ret (r := some (zi x2.1)) rfl (zrd_i rfl (by decide +kernel))
set_option maxRecDepth 20000 in
theorem k_Main_pick {l : Launch} {X : zX} (hl : l.stackTraces = false) {h : zH} {v1 : Int32} : zGl l m_Main_pick X 0 0 (f_Main_pick h v1) (0, [some (zr (some (0, 0))), some (zi v1)], [], h) (fun x => .inr ((fun a => (.inl (some (zi a.1)), a.2) : Int32 × zH → zF) x)) := by
  unfold f_Main_pick
  refine zG_run t_Main [(.iload_n 1, 0, 0), (.iconst (-1), 0, 0)] (2, [some (zr (some (0, 0))), some (zi v1)], [zi (-1), zi v1], h) (by decide +kernel) rfl ?_
  refine zG_icmp (op := .ne) (off := 23) (tgt := 25) (by decide +kernel) rfl Iff.rfl (fun c12 => ?_) (fun c12 => ?_)
  · refine zG_run t_Main [(.aload_n 0, 0, 0), (.getfield 30, 0, 3), (.iload_n 1, 0, 0)] (30, [some (zr (some (0, 0))), some (zi v1)], [zi v1, zr (some (1, 74))], h) (by decide +kernel) rfl ?_
    refine zG_callV (idx := 301) (R := (fun a => (some (zi a), h))) (as := [zi v1]) (rest := []) (n := 1) (fun a ha => c_Catalog_isFault hl ha) (by decide +kernel) ⟨ok_Catalog_isFault, by decide, by decide +kernel⟩ rfl w_233 w_234 w_235 (by decide) rfl rfl rfl (Nat.le_of_ble_eq_true rfl) fun x1 => ?_
    refine zG_if (op := .eq) (off := 28) (tgt := 61) (by decide +kernel) rfl Iff.rfl (fun c9 => ?_) (fun c9 => ?_)
    · exact zG_forget (L' := [some (zr (some (0, 0))), none]) (And.intro rfl trivial) (k_Main_pick_j61 hl)
    · refine zG_run t_Main [(.aload_n 0, 0, 0), (.getfield 30, 0, 3), (.iload_n 1, 0, 0)] (41, [some (zr (some (0, 0))), some (zi v1)], [zi v1, zr (some (1, 74))], h) (by decide +kernel) rfl ?_
      refine zG_callV (idx := 201) (R := (fun a => (some (zi a), h))) (as := [zi v1]) (rest := []) (n := 1) (fun a ha => c_Catalog_isLost hl ha) (by decide +kernel) ⟨ok_Catalog_isLost, by decide, by decide +kernel⟩ rfl w_246 w_144 w_145 (by decide) rfl rfl rfl (Nat.le_of_ble_eq_true rfl) fun x3 => ?_
      refine zG_if (op := .ne) (off := 17) (tgt := 61) (by decide +kernel) rfl Iff.rfl (fun c8 => ?_) (fun c8 => ?_)
      · exact zG_forget (L' := [some (zr (some (0, 0))), none]) (And.intro rfl trivial) (k_Main_pick_j61 hl)
      · refine zG_run t_Main [(.aload_n 0, 0, 0), (.getfield 58, 0, 7), (.getfield 139, 7, 0), (.iload_n 1, 0, 0)] (55, [some (zr (some (0, 0))), some (zi v1)], [zi v1, zr (some (8, 156))], h) (by decide +kernel) rfl ?_
        refine zG_callV (idx := 304) (R := (fun a => (some (zi a), h))) (as := [zi v1]) (rest := []) (n := 1) (fun a ha => c_State_canPick hl ha) (by decide +kernel) ⟨ok_State_canPick, by decide, by decide +kernel⟩ rfl w_334 w_335 w_336 (by decide) rfl rfl rfl (Nat.le_of_ble_eq_true rfl) fun x4 => ?_
        refine zG_if (op := .ne) (off := 8) (tgt := 66) (by decide +kernel) rfl Iff.rfl (fun c7 => ?_) (fun c7 => ?_)
        · refine zG_run t_Main [(.aload_n 0, 0, 0), (.getfield 58, 0, 7)] (70, [some (zr (some (0, 0))), some (zi v1)], [zr (some (7, 155))], h) (by decide +kernel) rfl ?_
          refine zG_callV (idx := 269) (R := (fun a => (none, a))) (as := []) (rest := []) (n := 0) (fun a ha => c_Session_keepState hl ha) (by decide +kernel) ⟨ok_Session_keepState, by decide, by decide +kernel⟩ rfl w_303 w_304 w_305 (by decide) rfl rfl rfl (Nat.le_of_ble_eq_true rfl) fun x5 => ?_
          refine zG_run t_Main [(.aload_n 0, 0, 0), (.getfield 58, 0, 7), (.getfield 139, 7, 0), (.iload_n 1, 0, 0)] (81, [some (zr (some (0, 0))), some (zi v1)], [zi v1, zr (some (8, 156))], x5) (by decide +kernel) rfl ?_
          refine zG_callV (idx := 307) (R := (fun a => (some (zi a.1), a.2))) (as := [zi v1]) (rest := []) (n := 1) (fun a ha => c_State_addPick hl ha) (by decide +kernel) ⟨ok_State_addPick, by decide, by decide +kernel⟩ rfl w_337 w_338 w_339 (by decide) rfl rfl rfl (Nat.le_of_ble_eq_true rfl) fun x6 => ?_
          exact zG_ret (r := some (zi x6.1)) rfl (zrd_i rfl (by decide +kernel))
        · exact zG_forget (L' := [some (zr (some (0, 0))), none]) (And.intro rfl trivial) (k_Main_pick_j61 hl)
  · refine zG_run t_Main [(.aload_n 0, 0, 0), (.getfield 58, 0, 7)] (9, [some (zr (some (0, 0))), some (zi v1)], [zr (some (7, 155))], h) (by decide +kernel) rfl ?_
    refine zG_callV (idx := 269) (R := (fun a => (none, a))) (as := []) (rest := []) (n := 0) (fun a ha => c_Session_keepState hl ha) (by decide +kernel) ⟨ok_Session_keepState, by decide, by decide +kernel⟩ rfl w_303 w_304 w_305 (by decide) rfl rfl rfl (Nat.le_of_ble_eq_true rfl) fun x10 => ?_
    refine zG_bind (fun y => (23, [some (zr (some (0, 0))), some (zi v1)], [], y)) (zG_run t_Main [(.aload_n 0, 0, 0), (.getfield 58, 0, 7), (.getfield 139, 7, 0), (.iconst 0, 0, 0), (.putfield 250, 8, 5)] (23, [some (zr (some (0, 0))), some (zi v1)], [], zsI x10 156 5 0) (by decide +kernel) rfl (zG_end (L' := [some (zr (some (0, 0))), some (zi v1)]) rfl (And.intro rfl (And.intro rfl trivial)))) fun h11 => ?_
    refine zG_run t_Main [(.iconst 0, 0, 0)] (24, [some (zr (some (0, 0))), some (zi v1)], [zi 0], h11) (by decide +kernel) rfl ?_
    exact zG_ret (r := some (zi 0)) rfl (zrd_i rfl (by decide +kernel))
theorem c_Main_pick {l : Launch} {X : zX} (hl : l.stackTraces = false) {h : zH} {v1 : Int32} {x : Int32 × zH} (hx : f_Main_pick h v1 = some x) : zCt l (true, 2) 2 m_Main_pick X 0 0 [zr (some (0, 0)), zi v1] h ((fun a => (.inl (some (zi a.1)), a.2) : Int32 × zH → zF) x) :=
  zG_ct (R := fun a => (.inl (some (zi a.1)), a.2)) (x := x) ok_Main_pick hl (Nat.le_of_ble_eq_true rfl) hx (k_Main_pick hl)
def m_Session_undoLast : zM := (({ cls := "ScanPacker$Session", name := "undoLast", desc := "()I" } : Jvm.MethodName), prog_8_method_6_code, 1, (Option.some Jvm.ClassFile.FieldType.int), [], 2)
theorem ok_Session_undoLast : zMok m_Session_undoLast := ⟨by decide +kernel, zW_of 838 (by decide +kernel) (by decide +kernel), zW_of 131 (by decide +kernel) (by decide +kernel), by decide, by decide +kernel, by decide +kernel⟩
set_option maxRecDepth 20000 in
theorem k_Session_undoLast {l : Launch} {X : zX} (hl : l.stackTraces = false) {o : Nat} {h : zH} : zGl l m_Session_undoLast X 0 0 (f_Session_undoLast o h) (0, [some (zr (some (7, o)))], [], h) (fun x => .inr ((fun a => (.inl (some (zi a.1)), a.2) : Int32 × zH → zF) x)) := by
  unfold f_Session_undoLast
  refine zG_run t_Session [(.aload_n 0, 0, 0), (.getfield 43, 7, 3)] (4, [some (zr (some (7, o)))], [zi (h.1 o 3)], h) (by decide +kernel) rfl ?_
  refine zG_if (op := .ne) (off := 5) (tgt := 9) (by decide +kernel) rfl Iff.rfl (fun c4 => ?_) (fun c4 => ?_)
  · refine zG_bind (fun y => (19, [some (zr (some (7, o)))], [], y)) (zG_run t_Session [(.aload_n 0, 0, 0), (.dup, 0, 0), (.getfield 43, 7, 3), (.iconst 1, 0, 0), (.isub, 0, 0), (.putfield 43, 7, 3)] (19, [some (zr (some (7, o)))], [], zsI h o 3 ((h.1 o 3) - 1)) (by decide +kernel) rfl (zG_end (L' := [some (zr (some (7, o)))]) rfl (And.intro rfl trivial))) fun h1 => ?_
    refine zG_run t_Session [(.aload_n 0, 0, 0), (.getfield 12, 7, 0), (.aload_n 0, 0, 0), (.getfield 18, 7, 1), (.aload_n 0, 0, 0), (.getfield 39, 7, 2), (.aload_n 0, 0, 0), (.getfield 43, 7, 3), (.iadd, 0, 0), (.bipush 40, 0, 0)] (38, [some (zr (some (7, o)))], [zi 40, zi ((h1.1 o 2) + (h1.1 o 3)), zr (some (55, (o + 3))), zr (some (8, (o + 1)))], h1) (by decide +kernel) rfl ?_
    refine zG_iremc (by decide +kernel) (by decide) ?_
    refine zG_ald (v := zr (some (8, ((o + 3) + (5 + 2 * (zrem ((h1.1 o 2) + (h1.1 o 3)) 40).toNatClampNeg))))) (n := 40) rfl (by decide +kernel) rfl rfl fun hb2 => ?_
    refine zG_callV (idx := 49) (R := (fun a => (none, a))) (as := [zr (some (8, ((o + 3) + (5 + 2 * (zrem ((h1.1 o 2) + (h1.1 o 3)) 40).toNatClampNeg))))]) (rest := []) (n := 1) (fun a ha => c_State_copyFrom hl ha) (by decide +kernel) ⟨ok_State_copyFrom, by decide, by decide +kernel⟩ rfl w_300 w_301 w_302 (by decide) rfl rfl rfl (Nat.le_of_ble_eq_true rfl) fun x3 => ?_
    refine zG_run t_Session [(.aload_n 0, 0, 0), (.getfield 43, 7, 3)] (47, [some (zr (some (7, o)))], [zi (x3.1 o 3)], x3) (by decide +kernel) rfl ?_
    exact zG_ret (r := some (zi (x3.1 o 3))) rfl (zrd_i rfl (by decide +kernel))
  · refine zG_run t_Session [(.iconst (-1), 0, 0)] (8, [some (zr (some (7, o)))], [zi (-1)], h) (by decide +kernel) rfl ?_
    exact zG_ret (r := some (zi (-1))) rfl (zrd_i rfl (by decide +kernel))
theorem c_Session_undoLast {l : Launch} {X : zX} (hl : l.stackTraces = false) {o : Nat} {h : zH} {x : Int32 × zH} (hx : f_Session_undoLast o h = some x) : zCt l (true, 2) 2 m_Session_undoLast X 0 0 [zr (some (7, o))] h ((fun a => (.inl (some (zi a.1)), a.2) : Int32 × zH → zF) x) :=
  zG_ct (R := fun a => (.inl (some (zi a.1)), a.2)) (x := x) ok_Session_undoLast hl (Nat.le_of_ble_eq_true rfl) hx (k_Session_undoLast hl)
def m_Main_undo : zM := (({ cls := "ScanPacker", name := "undo", desc := "()I" } : Jvm.MethodName), prog_1_method_24_code, 1, (Option.some Jvm.ClassFile.FieldType.int), [], 3)
theorem ok_Main_undo : zMok m_Main_undo := ⟨by decide +kernel, zW_of 834 (by decide +kernel) (by decide +kernel), zW_of 122 (by decide +kernel) (by decide +kernel), by decide, by decide +kernel, by decide +kernel⟩
set_option maxRecDepth 20000 in
theorem k_Main_undo {l : Launch} {X : zX} (hl : l.stackTraces = false) {h : zH} : zGl l m_Main_undo X 0 0 (f_Main_undo h) (0, [some (zr (some (0, 0)))], [], h) (fun x => .inr ((fun a => (.inl (some (zi a.1)), a.2) : Int32 × zH → zF) x)) := by
  unfold f_Main_undo
  refine zG_run t_Main [(.aload_n 0, 0, 0), (.getfield 58, 0, 7)] (4, [some (zr (some (0, 0)))], [zr (some (7, 155))], h) (by decide +kernel) rfl ?_
  refine zG_callV (idx := 310) (R := (fun a => (some (zi a.1), a.2))) (as := []) (rest := []) (n := 0) (fun a ha => c_Session_undoLast hl ha) (by decide +kernel) ⟨ok_Session_undoLast, by decide, by decide +kernel⟩ rfl w_340 w_341 w_342 (by decide) rfl rfl rfl (Nat.le_of_ble_eq_true rfl) fun x1 => ?_
  exact zG_ret (r := some (zi x1.1)) rfl (zrd_i rfl (by decide +kernel))
theorem c_Main_undo {l : Launch} {X : zX} (hl : l.stackTraces = false) {h : zH} {x : Int32 × zH} (hx : f_Main_undo h = some x) : zCt l (true, 2) 2 m_Main_undo X 0 0 [zr (some (0, 0))] h ((fun a => (.inl (some (zi a.1)), a.2) : Int32 × zH → zF) x) :=
  zG_ct (R := fun a => (.inl (some (zi a.1)), a.2)) (x := x) ok_Main_undo hl (Nat.le_of_ble_eq_true rfl) hx (k_Main_undo hl)
def m_Session_addNote : zM := (({ cls := "ScanPacker$Session", name := "addNote", desc := "(III)I" } : Jvm.MethodName), prog_8_method_7_code, 4, (Option.some Jvm.ClassFile.FieldType.int), [], 1)
theorem ok_Session_addNote : zMok m_Session_addNote := ⟨by decide +kernel, zW_of 852 (by decide +kernel) (by decide +kernel), zW_of 131 (by decide +kernel) (by decide +kernel), by decide, by decide +kernel, by decide +kernel⟩
set_option maxRecDepth 20000 in
theorem k_Session_addNote {l : Launch} {X : zX} (hl : l.stackTraces = false) {o : Nat} {h : zH} {v1 : Int32} {v2 : Int32} {v3 : Int32} : zGl l m_Session_addNote X 0 0 (f_Session_addNote o h v1 v2 v3) (0, [some (zr (some (7, o))), some (zi v1), some (zi v2), some (zi v3)], [], h) (fun x => .inr ((fun a => (.inl (some (zi a.1)), a.2) : Int32 × zH → zF) x)) := by
  unfold f_Session_addNote
  refine zG_run t_Session [(.aload_n 0, 0, 0), (.getfield 22, 7, 4), (.aload_n 0, 0, 0), (.getfield 46, 7, 7), (.iload_n 1, 0, 0)] (9, [some (zr (some (7, o))), some (zi v1), some (zi v2), some (zi v3)], [zi v1, zi (h.1 o 7), zr (some (56, (o + 4)))], h) (by decide +kernel) rfl ?_
  refine zG_guard fun hb2 => ?_
  refine zG_bind (fun y => (10, [some (zr (some (7, o))), some (zi v1), some (zi v2), some (zi v3)], [], y)) (zG_astc (h' := zsI h (o + 4) (h.1 o 7).toNatClampNeg v1) rfl (by decide +kernel) hb2 rfl (zG_end (L' := [some (zr (some (7, o))), some (zi v1), some (zi v2), some (zi v3)]) rfl (And.intro rfl (And.intro rfl (And.intro rfl (And.intro rfl trivial)))))) fun h1 => ?_
  refine zG_run t_Session [(.aload_n 0, 0, 0), (.getfield 26, 7, 5), (.aload_n 0, 0, 0), (.getfield 46, 7, 7), (.iload_n 2, 0, 0)] (19, [some (zr (some (7, o))), some (zi v1), some (zi v2), some (zi v3)], [zi v2, zi (h1.1 o 7), zr (some (57, (o + 5)))], h1) (by decide +kernel) rfl ?_
  refine zG_guard fun hb4 => ?_
  refine zG_bind (fun y => (20, [some (zr (some (7, o))), some (zi v1), some (zi v2), some (zi v3)], [], y)) (zG_astc (h' := zsI h1 (o + 5) (h1.1 o 7).toNatClampNeg v2) rfl (by decide +kernel) hb4 rfl (zG_end (L' := [some (zr (some (7, o))), some (zi v1), some (zi v2), some (zi v3)]) rfl (And.intro rfl (And.intro rfl (And.intro rfl (And.intro rfl trivial)))))) fun h3 => ?_
  refine zG_run t_Session [(.aload_n 0, 0, 0), (.getfield 29, 7, 6), (.aload_n 0, 0, 0), (.getfield 46, 7, 7), (.iload_n 3, 0, 0)] (29, [some (zr (some (7, o))), some (zi v1), some (zi v2), some (zi v3)], [zi v3, zi (h3.1 o 7), zr (some (58, (o + 6)))], h3) (by decide +kernel) rfl ?_
  refine zG_guard fun hb6 => ?_
  refine zG_bind (fun y => (30, [some (zr (some (7, o))), some (zi v1), some (zi v2), some (zi v3)], [], y)) (zG_astc (h' := zsI h3 (o + 6) (h3.1 o 7).toNatClampNeg v3) rfl (by decide +kernel) hb6 rfl (zG_end (L' := [some (zr (some (7, o))), some (zi v1), some (zi v2), some (zi v3)]) rfl (And.intro rfl (And.intro rfl (And.intro rfl (And.intro rfl trivial)))))) fun h5 => ?_
  refine zG_bind (fun y => (40, [some (zr (some (7, o))), some (zi v1), some (zi v2), some (zi v3)], [], y)) (zG_run t_Session [(.aload_n 0, 0, 0), (.dup, 0, 0), (.getfield 46, 7, 7), (.iconst 1, 0, 0), (.iadd, 0, 0), (.putfield 46, 7, 7)] (40, [some (zr (some (7, o))), some (zi v1), some (zi v2), some (zi v3)], [], zsI h5 o 7 ((h5.1 o 7) + 1)) (by decide +kernel) rfl (zG_end (L' := [some (zr (some (7, o))), some (zi v1), some (zi v2), some (zi v3)]) rfl (And.intro rfl (And.intro rfl (And.intro rfl (And.intro rfl trivial)))))) fun h7 => ?_
  refine zG_run t_Session [(.aload_n 0, 0, 0), (.getfield 46, 7, 7)] (44, [some (zr (some (7, o))), some (zi v1), some (zi v2), some (zi v3)], [zi (h7.1 o 7)], h7) (by decide +kernel) rfl ?_
  exact zG_ret (r := some (zi (h7.1 o 7))) rfl (zrd_i rfl (by decide +kernel))
theorem c_Session_addNote {l : Launch} {X : zX} (hl : l.stackTraces = false) {o : Nat} {h : zH} {v1 : Int32} {v2 : Int32} {v3 : Int32} {x : Int32 × zH} (hx : f_Session_addNote o h v1 v2 v3 = some x) : zCt l (true, 2) 2 m_Session_addNote X 0 0 [zr (some (7, o)), zi v1, zi v2, zi v3] h ((fun a => (.inl (some (zi a.1)), a.2) : Int32 × zH → zF) x) :=
  zG_ct (R := fun a => (.inl (some (zi a.1)), a.2)) (x := x) ok_Session_addNote hl (Nat.le_of_ble_eq_true rfl) hx (k_Session_addNote hl)
def m_Main_note : zM := (({ cls := "ScanPacker", name := "note", desc := "(III)I" } : Jvm.MethodName), prog_1_method_25_code, 5, (Option.some Jvm.ClassFile.FieldType.int), [], 3)
theorem ok_Main_note : zMok m_Main_note := ⟨by decide +kernel, zW_of 842 (by decide +kernel) (by decide +kernel), zW_of 122 (by decide +kernel) (by decide +kernel), by decide, by decide +kernel, by decide +kernel⟩
set_option maxRecDepth 20000 in
theorem k_Main_note_j64 {l : Launch} {X : zX} (hl : l.stackTraces = false) {h : zH} : zGl l m_Main_note X 0 0 (f_Main_note_j64 h) (64, [some (zr (some (0, 0))), none, none, none, none], [], h) (fun x => .inr ((fun a => (.inl (some (zi a.1)), a.2) : Int32 × zH → zF) x)) := by
  unfold f_Main_note_j64
  refine zG_run t_Main [(.aload_n 0, 0, 0), (.getfield 58, 0, 7), (.iconst 2, 0, 0)] (69, [some (zr (some (0, 0))), none, none, none, none], [zi 2, zr (some (7, 155))], h) (by decide +kernel) rfl ?_
  refine zG_callV (idx := 102) (R := (fun a => (none, a))) (as := [zi 2]) (rest := []) (n := 1) (fun a ha => c_Session_refuse hl ha) (by decide +kernel) ⟨ok_Session_refuse, by decide, by decide +kernel⟩ rfl w_173 w_174 w_175 (by decide) rfl rfl rfl (Nat.le_of_ble_eq_true rfl) fun x3 => ?_
  refine zG_run t_Main [(.iconst (-1), 0, 0)] (73, [some (zr (some (0, 0))), none, none, none, none], [zi (-1)], x3) (by decide +kernel) rfl ?_
  exact zG_ret (r := some (zi (-1))) rfl (zrd_i rfl (by decide +kernel))
set_option maxRecDepth 20000 in
theorem k_Main_note_j27 {l : Launch} {X : zX} (hl : l.stackTraces = false) {h : zH} {v1 : Int32} {v2 : Int32} {v3 : Int32} {t0 : Int32} : zGl l m_Main_note X 0 0 (f_Main_note_j27 h v1 v2 v3 t0) (27, [some (zr (some (0, 0))), some (zi v1), some (zi v2), some (zi v3), none], [zi t0], h) (fun x => .inr ((fun a => (.inl (some (zi a.1)), a.2) : Int32 × zH → zF) x)) := by
  unfold f_Main_note_j27
  refine zG_run t_Main [(.istore 4, 0, 0), (.aload_n 0, 0, 0), (.getfield 58, 0, 7), (.getfield 316, 7, 7), (.bipush 10, 0, 0)] (38, [some (zr (some (0, 0))), some (zi v1), some (zi v2), some (zi v3), some (zi t0)], [zi 10, zi (h.1 155 7)], h) (by decide +kernel) rfl ?_
  refine zG_icmp (op := .ge) (off := 26) (tgt := 64) (by decide +kernel) rfl Iff.rfl (fun c10 => ?_) (fun c10 => ?_)
  · exact zG_forget (L' := [some (zr (some (0, 0))), none, none, none, none]) (And.intro rfl trivial) (k_Main_note_j64 hl)
  · refine zG_run t_Main [(.aload_n 0, 0, 0), (.getfield 30, 0, 3), (.iload_n 1, 0, 0)] (46, [some (zr (some (0, 0))), some (zi v1), some (zi v2), some (zi v3), some (zi t0)], [zi v1, zr (some (1, 74))], h) (by decide +kernel) rfl ?_
    refine zG_callV (idx := 288) (R := (fun a => (some (zi a), h))) (as := [zi v1]) (rest := []) (n := 1) (fun a ha => c_Catalog_isRow hl ha) (by decide +kernel) ⟨ok_Catalog_isRow, by decide, by decide +kernel⟩ rfl w_318 w_319 w_320 (by decide) rfl rfl rfl (Nat.le_of_ble_eq_true rfl) fun x4 => ?_
    refine zG_if (op := .eq) (off := 15) (tgt := 64) (by decide +kernel) rfl Iff.rfl (fun c9 => ?_) (fun c9 => ?_)
    · exact zG_forget (L' := [some (zr (some (0, 0))), none, none, none, none]) (And.intro rfl trivial) (k_Main_note_j64 hl)
    · refine zG_run t_Main [(.iload 4, 0, 0)] (54, [some (zr (some (0, 0))), some (zi v1), some (zi v2), some (zi v3), some (zi t0)], [zi t0], h) (by decide +kernel) rfl ?_
      refine zG_if (op := .eq) (off := 10) (tgt := 64) (by decide +kernel) rfl Iff.rfl (fun c8 => ?_) (fun c8 => ?_)
      · exact zG_forget (L' := [some (zr (some (0, 0))), none, none, none, none]) (And.intro rfl trivial) (k_Main_note_j64 hl)
      · refine zG_run t_Main [(.iload_n 3, 0, 0)] (58, [some (zr (some (0, 0))), some (zi v1), some (zi v2), some (zi v3), some (zi t0)], [zi v3], h) (by decide +kernel) rfl ?_
        refine zG_callS (idx := 262) (R := (fun a => (some (zi a), h))) (as := [zi v3]) (rest := []) (n := 1) (fun a ha => c_Main_isBit hl ha) (by decide +kernel) ⟨ok_Main_isBit, by decide, by decide +kernel⟩ rfl w_298 w_299 rfl rfl (Nat.le_of_ble_eq_true rfl) fun x5 => ?_
        refine zG_if (op := .ne) (off := 13) (tgt := 74) (by decide +kernel) rfl Iff.rfl (fun c7 => ?_) (fun c7 => ?_)
        · refine zG_run t_Main [(.aload_n 0, 0, 0), (.getfield 58, 0, 7), (.iload_n 1, 0, 0), (.iload_n 2, 0, 0), (.iload_n 3, 0, 0)] (81, [some (zr (some (0, 0))), some (zi v1), some (zi v2), some (zi v3), some (zi t0)], [zi v3, zi v2, zi v1, zr (some (7, 155))], h) (by decide +kernel) rfl ?_
          refine zG_callV (idx := 319) (R := (fun a => (some (zi a.1), a.2))) (as := [zi v1, zi v2, zi v3]) (rest := []) (n := 3) (fun a ha => c_Session_addNote hl ha) (by decide +kernel) ⟨ok_Session_addNote, by decide, by decide +kernel⟩ rfl w_343 w_344 w_345 (by decide) rfl rfl rfl (Nat.le_of_ble_eq_true rfl) fun x6 => ?_
          exact zG_ret (r := some (zi x6.1)) rfl (zrd_i rfl (by decide +kernel))
        · exact zG_forget (L' := [some (zr (some (0, 0))), none, none, none, none]) (And.intro rfl trivial) (k_Main_note_j64 hl)
set_option maxRecDepth 20000 in
theorem k_Main_note {l : Launch} {X : zX} (hl : l.stackTraces = false) {h : zH} {v1 : Int32} {v2 : Int32} {v3 : Int32} : zGl l m_Main_note X 0 0 (f_Main_note h v1 v2 v3) (0, [some (zr (some (0, 0))), some (zi v1), some (zi v2), some (zi v3), none], [], h) (fun x => .inr ((fun a => (.inl (some (zi a.1)), a.2) : Int32 × zH → zF) x)) := by
  unfold f_Main_note
  refine zG_run t_Main [(.aload_n 0, 0, 0), (.getfield 19, 0, 1)] (4, [some (zr (some (0, 0))), some (zi v1), some (zi v2), some (zi v3), none], [zr (h.2.2.1 0 1)], h) (by decide +kernel) rfl ?_
  refine zG_dyn fun w1 _ => ?_
  refine zG_run t_Main [(.iload_n 2, 0, 0)] (5, [some (zr (some (0, 0))), some (zi v1), some (zi v2), some (zi v3), none], [zi v2, zr (some (3, w1))], h) (by decide +kernel) rfl ?_
  refine zG_callV (idx := 313) (R := (fun a => (some (zi a), h))) (as := [zi v2]) (rest := []) (n := 1) (fun a ha => c_Net_isLine hl ha) (by decide +kernel) ⟨ok_Net_isLine, by decide, by decide +kernel⟩ rfl w_220 w_221 w_222 (by decide) rfl rfl rfl (Nat.le_of_ble_eq_true rfl) fun x2 => ?_
  refine zG_if (op := .eq) (off := 18) (tgt := 26) (by decide +kernel) rfl Iff.rfl (fun c14 => ?_) (fun c14 => ?_)
  · refine zG_run t_Main [(.iconst 0, 0, 0)] (27, [some (zr (some (0, 0))), some (zi v1), some (zi v2), some (zi v3), none], [zi 0], h) (by decide +kernel) rfl ?_
    exact zG_forget (L' := [some (zr (some (0, 0))), some (zi v1), some (zi v2), some (zi v3), none]) (And.intro rfl (And.intro rfl (And.intro rfl (And.intro rfl trivial)))) (k_Main_note_j27 hl)
  · refine zG_run t_Main [(.aload_n 0, 0, 0), (.getfield 19, 0, 1)] (15, [some (zr (some (0, 0))), some (zi v1), some (zi v2), some (zi v3), none], [zr (h.2.2.1 0 1)], h) (by decide +kernel) rfl ?_
    refine zG_dyn fun w11 _ => ?_
    refine zG_run t_Main [(.iload_n 2, 0, 0)] (16, [some (zr (some (0, 0))), some (zi v1), some (zi v2), some (zi v3), none], [zi v2, zr (some (3, w11))], h) (by decide +kernel) rfl ?_
    refine zG_callV (idx := 135) (R := (fun a => (some (zi a), h))) (as := [zi v2]) (rest := []) (n := 1) (fun a ha => c_Net_isSeen hl ha) (by decide +kernel) ⟨ok_Net_isSeen, by decide, by decide +kernel⟩ rfl w_226 w_126 w_127 (by decide) rfl rfl rfl (Nat.le_of_ble_eq_true rfl) fun x12 => ?_
    refine zG_if (op := .eq) (off := 7) (tgt := 26) (by decide +kernel) rfl Iff.rfl (fun c13 => ?_) (fun c13 => ?_)
    · refine zG_run t_Main [(.iconst 0, 0, 0)] (27, [some (zr (some (0, 0))), some (zi v1), some (zi v2), some (zi v3), none], [zi 0], h) (by decide +kernel) rfl ?_
      exact zG_forget (L' := [some (zr (some (0, 0))), some (zi v1), some (zi v2), some (zi v3), none]) (And.intro rfl (And.intro rfl (And.intro rfl (And.intro rfl trivial)))) (k_Main_note_j27 hl)
    · refine zG_run t_Main [(.iconst 1, 0, 0), (.goto 4, 0, 0)] (27, [some (zr (some (0, 0))), some (zi v1), some (zi v2), some (zi v3), none], [zi 1], h) (by decide +kernel) rfl ?_
      exact zG_forget (L' := [some (zr (some (0, 0))), some (zi v1), some (zi v2), some (zi v3), none]) (And.intro rfl (And.intro rfl (And.intro rfl (And.intro rfl trivial)))) (k_Main_note_j27 hl)
theorem c_Main_note {l : Launch} {X : zX} (hl : l.stackTraces = false) {h : zH} {v1 : Int32} {v2 : Int32} {v3 : Int32} {x : Int32 × zH} (hx : f_Main_note h v1 v2 v3 = some x) : zCt l (true, 2) 2 m_Main_note X 0 0 [zr (some (0, 0)), zi v1, zi v2, zi v3] h ((fun a => (.inl (some (zi a.1)), a.2) : Int32 × zH → zF) x) :=
  zG_ct (R := fun a => (.inl (some (zi a.1)), a.2)) (x := x) ok_Main_note hl (Nat.le_of_ble_eq_true rfl) hx (k_Main_note hl)
def m_Diagnosis_isSo : zM := (({ cls := "ScanPacker$Diagnosis", name := "isSo", desc := "(LScanPacker$Catalog;LScanPacker$Session;I)Z" } : Jvm.MethodName), prog_3_method_3_code, 5, (Option.some Jvm.ClassFile.FieldType.boolean), [], 2)
theorem ok_Diagnosis_isSo : zMok m_Diagnosis_isSo := ⟨by decide +kernel, zW_of 1311 (by decide +kernel) (by decide +kernel), zW_of 130 (by decide +kernel) (by decide +kernel), by decide, by decide +kernel, by decide +kernel⟩
set_option maxRecDepth 20000 in
theorem k_Diagnosis_isSo_b3 {l : Launch} {X : zX} (hl : l.stackTraces = false) {o2 : Nat} {h : zH} {v3 : Int32} {v4 : Int32} : zGl l m_Diagnosis_isSo X 0 0 (f_Diagnosis_isSo_b3 o2 h v3 v4) (3, [none, some (zr (some (1, 74))), some (zr (some (7, o2))), some (zi v3), some (zi v4)], [], h) (Sum.elim (fun s : Int32 => .inl (3, [none, some (zr (some (1, 74))), some (zr (some (7, o2))), some (zi v3), some (zi s)], [], h)) (Sum.elim (fun y : Unit => .inl (41, [none, none, none, none, none], [], h)) (fun y : Unit => .inl (49, [none, none, none, none, none], [], h)))) := by
  unfold f_Diagnosis_isSo_b3
  refine zG_run t_Diagnosis [(.iload 4, 0, 0), (.aload_n 2, 0, 0), (.getfield 35, 7, 7)] (9, [none, some (zr (some (1, 74))), some (zr (some (7, o2))), some (zi v3), some (zi v4)], [zi (h.1 o2 7), zi v4], h) (by decide +kernel) rfl ?_
  refine zG_icmp (op := .ge) (off := 40) (tgt := 49) (by decide +kernel) rfl Iff.rfl (fun c6 => ?_) (fun c6 => ?_)
  · exact zG_end (L' := [none, none, none, none, none]) rfl (trivial)
  · refine zG_run t_Diagnosis [(.aload_n 1, 0, 0), (.iload_n 3, 0, 0), (.aload_n 2, 0, 0), (.getfield 40, 7, 5), (.iload 4, 0, 0)] (20, [none, some (zr (some (1, 74))), some (zr (some (7, o2))), some (zi v3), some (zi v4)], [zi v4, zr (some (57, (o2 + 5))), zi v3, zr (some (1, 74))], h) (by decide +kernel) rfl ?_
    refine zG_ald (v := zi (h.1 (o2 + 5) v4.toNatClampNeg)) (n := 10) rfl (by decide +kernel) rfl rfl fun hb1 => ?_
    refine zG_run t_Diagnosis [(.aload_n 2, 0, 0), (.getfield 43, 7, 4), (.iload 4, 0, 0)] (27, [none, some (zr (some (1, 74))), some (zr (some (7, o2))), some (zi v3), some (zi v4)], [zi v4, zr (some (56, (o2 + 4))), zi (h.1 (o2 + 5) v4.toNatClampNeg), zi v3, zr (some (1, 74))], h) (by decide +kernel) rfl ?_
    refine zG_ald (v := zi (h.1 (o2 + 4) v4.toNatClampNeg)) (n := 10) rfl (by decide +kernel) rfl rfl fun hb2 => ?_
    refine zG_callV (idx := 46) (R := (fun a => (some (zi a), h))) (as := [zi v3, zi (h.1 (o2 + 5) v4.toNatClampNeg), zi (h.1 (o2 + 4) v4.toNatClampNeg)]) (rest := []) (n := 3) (fun a ha => c_Catalog_tell hl ha) (by decide +kernel) ⟨ok_Catalog_tell, by decide, by decide +kernel⟩ rfl w_346 w_228 w_229 (by decide) rfl rfl rfl (Nat.le_of_ble_eq_true rfl) fun x3 => ?_
    refine zG_run t_Diagnosis [(.aload_n 2, 0, 0), (.getfield 50, 7, 6), (.iload 4, 0, 0)] (37, [none, some (zr (some (1, 74))), some (zr (some (7, o2))), some (zi v3), some (zi v4)], [zi v4, zr (some (58, (o2 + 6))), zi x3], h) (by decide +kernel) rfl ?_
    refine zG_ald (v := zi (h.1 (o2 + 6) v4.toNatClampNeg)) (n := 10) rfl (by decide +kernel) rfl rfl fun hb4 => ?_
    refine zG_icmp (op := .eq) (off := 5) (tgt := 43) (by decide +kernel) rfl Iff.rfl (fun c5 => ?_) (fun c5 => ?_)
    · refine zG_run t_Diagnosis [(.iinc 4 1, 0, 0), (.goto (-43), 0, 0)] (3, [none, some (zr (some (1, 74))), some (zr (some (7, o2))), some (zi v3), some (zi (v4 + 1))], [], h) (by decide +kernel) rfl ?_
      exact zG_end (L' := [none, some (zr (some (1, 74))), some (zr (some (7, o2))), some (zi v3), some (zi (v4 + 1))]) rfl (And.intro rfl (And.intro rfl (And.intro rfl (And.intro rfl trivial))))
    · exact zG_end (L' := [none, none, none, none, none]) rfl (trivial)
set_option maxRecDepth 20000 in
theorem k_Diagnosis_isSo {l : Launch} {X : zX} (hl : l.stackTraces = false) {o2 : Nat} {h : zH} {v3 : Int32} : zGl l m_Diagnosis_isSo X 0 0 (f_Diagnosis_isSo o2 h v3) (0, [some (zr (some (2, 152))), some (zr (some (1, 74))), some (zr (some (7, o2))), some (zi v3), none], [], h) (fun x => .inr ((fun a => (.inl (some (zi a)), h) : Int32 → zF) x)) := by
  unfold f_Diagnosis_isSo
  refine zG_run t_Diagnosis [(.iconst 0, 0, 0), (.istore 4, 0, 0)] (3, [some (zr (some (2, 152))), some (zr (some (1, 74))), some (zr (some (7, o2))), some (zi v3), some (zi 0)], [], h) (by decide +kernel) rfl ?_
  refine zG_forget (L' := [none, some (zr (some (1, 74))), some (zr (some (7, o2))), some (zi v3), some (zi 0)]) (And.intro rfl (And.intro rfl (And.intro rfl (And.intro rfl trivial)))) ?_
  refine zG_bind2 (fun y : Unit => (41, [none, none, none, none, none], [], h)) (fun y : Unit => (49, [none, none, none, none, none], [], h)) (zG_iter (fun s : Int32 => (3, [none, some (zr (some (1, 74))), some (zr (some (7, o2))), some (zi v3), some (zi s)], [], h)) fun s => k_Diagnosis_isSo_b3 hl) (fun y8 => ?_) (fun y9 => ?_)
  · refine zG_run t_Diagnosis [(.iconst 0, 0, 0)] (42, [none, none, none, none, none], [zi 0], h) (by decide +kernel) rfl ?_
    exact zG_ret (r := some (zi 0)) rfl (zrd_z rfl (by decide +kernel) rfl)
  · refine zG_run t_Diagnosis [(.iconst 1, 0, 0)] (50, [none, none, none, none, none], [zi 1], h) (by decide +kernel) rfl ?_
    exact zG_ret (r := some (zi 1)) rfl (zrd_z rfl (by decide +kernel) rfl)
theorem c_Diagnosis_isSo {l : Launch} {X : zX} (hl : l.stackTraces = false) {o2 : Nat} {h : zH} {v3 : Int32} {x : Int32} (hx : f_Diagnosis_isSo o2 h v3 = some x) : zCt l (true, 2) 2 m_Diagnosis_isSo X 0 0 [zr (some (2, 152)), zr (some (1, 74)), zr (some (7, o2)), zi v3] h ((fun a => (.inl (some (zi a)), h) : Int32 → zF) x) :=
  zG_ct (R := fun a => (.inl (some (zi a)), h)) (x := x) ok_Diagnosis_isSo hl (Nat.le_of_ble_eq_true rfl) hx (k_Diagnosis_isSo hl)
def m_Diagnosis_gather : zM := (({ cls := "ScanPacker$Diagnosis", name := "gather", desc := "(LScanPacker$Catalog;LScanPacker$Session;)V" } : Jvm.MethodName), prog_3_method_2_code, 4, (Option.none : Option Jvm.ClassFile.FieldType), [], 3)
theorem ok_Diagnosis_gather : zMok m_Diagnosis_gather := ⟨by decide +kernel, zW_of 1307 (by decide +kernel) (by decide +kernel), zW_of 130 (by decide +kernel) (by decide +kernel), by decide, by decide +kernel, by decide +kernel⟩
set_option maxRecDepth 20000 in
theorem k_Diagnosis_gather_b7 {l : Launch} {X : zX} (hl : l.stackTraces = false) {o2 : Nat} {h : zH} {v3 : Int32} : zGl l m_Diagnosis_gather X 0 0 (f_Diagnosis_gather_b7 o2 h v3) (7, [some (zr (some (2, 152))), some (zr (some (1, 74))), some (zr (some (7, o2))), some (zi v3)], [], h) (Sum.elim (fun s : Int32 × zH => .inl (7, [some (zr (some (2, 152))), some (zr (some (1, 74))), some (zr (some (7, o2))), some (zi s.1)], [], s.2)) (fun y : zH => .inl (51, [some (zr (some (2, 152))), some (zr (some (1, 74))), some (zr (some (7, o2))), none], [], y))) := by
  unfold f_Diagnosis_gather_b7
  refine zG_run t_Diagnosis [(.iload_n 3, 0, 0), (.aload_n 1, 0, 0), (.getfield 22, 1, 0)] (12, [some (zr (some (2, 152))), some (zr (some (1, 74))), some (zr (some (7, o2))), some (zi v3)], [zi (h.1 74 0), zi v3], h) (by decide +kernel) rfl ?_
  refine zG_icmp (op := .ge) (off := 39) (tgt := 51) (by decide +kernel) rfl Iff.rfl (fun c7 => ?_) (fun c7 => ?_)
  · exact zG_end (L' := [some (zr (some (2, 152))), some (zr (some (1, 74))), some (zr (some (7, o2))), none]) rfl (And.intro rfl (And.intro rfl (And.intro rfl trivial)))
  · refine zG_run t_Diagnosis [(.aload_n 0, 0, 0), (.aload_n 1, 0, 0), (.aload_n 2, 0, 0), (.iload_n 3, 0, 0)] (19, [some (zr (some (2, 152))), some (zr (some (1, 74))), some (zr (some (7, o2))), some (zi v3)], [zi v3, zr (some (7, o2)), zr (some (1, 74)), zr (some (2, 152))], h) (by decide +kernel) rfl ?_
    refine zG_callV (idx := 27) (R := (fun a => (some (zi a), h))) (as := [zr (some (1, 74)), zr (some (7, o2)), zi v3]) (rest := []) (n := 3) (fun a ha => c_Diagnosis_isSo hl ha) (by decide +kernel) ⟨ok_Diagnosis_isSo, by decide, by decide +kernel⟩ rfl w_347 w_348 w_349 (by decide) rfl rfl rfl (Nat.le_of_ble_eq_true rfl) fun x2 => ?_
    refine zG_if (op := .eq) (off := 23) (tgt := 45) (by decide +kernel) rfl Iff.rfl (fun c6 => ?_) (fun c6 => ?_)
    · refine zG_run t_Diagnosis [(.iinc 3 1, 0, 0), (.goto (-41), 0, 0)] (7, [some (zr (some (2, 152))), some (zr (some (1, 74))), some (zr (some (7, o2))), some (zi (v3 + 1))], [], h) (by decide +kernel) rfl ?_
      exact zG_end (L' := [some (zr (some (2, 152))), some (zr (some (1, 74))), some (zr (some (7, o2))), some (zi (v3 + 1))]) rfl (And.intro rfl (And.intro rfl (And.intro rfl (And.intro rfl trivial))))
    · refine zG_run t_Diagnosis [(.aload_n 0, 0, 0), (.getfield 9, 2, 0), (.aload_n 0, 0, 0), (.getfield 18, 2, 1), (.iload_n 3, 0, 0)] (34, [some (zr (some (2, 152))), some (zr (some (1, 74))), some (zr (some (7, o2))), some (zi v3)], [zi v3, zi (h.1 152 1), zr (some (52, 153))], h) (by decide +kernel) rfl ?_
      refine zG_guard fun hb4 => ?_
      refine zG_bind (fun y => (35, [some (zr (some (2, 152))), some (zr (some (1, 74))), some (zr (some (7, o2))), some (zi v3)], [], y)) (zG_astc (h' := zsI h 153 (h.1 152 1).toNatClampNeg v3) rfl (by decide +kernel) hb4 rfl (zG_end (L' := [some (zr (some (2, 152))), some (zr (some (1, 74))), some (zr (some (7, o2))), some (zi v3)]) rfl (And.intro rfl (And.intro rfl (And.intro rfl (And.intro rfl trivial)))))) fun h3 => ?_
      refine zG_bind (fun y => (45, [some (zr (some (2, 152))), some (zr (some (1, 74))), some (zr (some (7, o2))), some (zi v3)], [], y)) (zG_run t_Diagnosis [(.aload_n 0, 0, 0), (.dup, 0, 0), (.getfield 18, 2, 1), (.iconst 1, 0, 0), (.iadd, 0, 0), (.putfield 18, 2, 1)] (45, [some (zr (some (2, 152))), some (zr (some (1, 74))), some (zr (some (7, o2))), some (zi v3)], [], zsI h3 152 1 ((h3.1 152 1) + 1)) (by decide +kernel) rfl (zG_end (L' := [some (zr (some (2, 152))), some (zr (some (1, 74))), some (zr (some (7, o2))), some (zi v3)]) rfl (And.intro rfl (And.intro rfl (And.intro rfl (And.intro rfl trivial)))))) fun h5 => ?_
      refine zG_run t_Diagnosis [(.iinc 3 1, 0, 0), (.goto (-41), 0, 0)] (7, [some (zr (some (2, 152))), some (zr (some (1, 74))), some (zr (some (7, o2))), some (zi (v3 + 1))], [], h5) (by decide +kernel) rfl ?_
      exact zG_end (L' := [some (zr (some (2, 152))), some (zr (some (1, 74))), some (zr (some (7, o2))), some (zi (v3 + 1))]) rfl (And.intro rfl (And.intro rfl (And.intro rfl (And.intro rfl trivial))))
set_option maxRecDepth 20000 in
theorem k_Diagnosis_gather {l : Launch} {X : zX} (hl : l.stackTraces = false) {o2 : Nat} {h : zH} : zGl l m_Diagnosis_gather X 0 0 (f_Diagnosis_gather o2 h) (0, [some (zr (some (2, 152))), some (zr (some (1, 74))), some (zr (some (7, o2))), none], [], h) (fun x => .inr ((fun a => (.inl none, a) : zH → zF) x)) := by
  unfold f_Diagnosis_gather
  refine zG_bind (fun y => (5, [some (zr (some (2, 152))), some (zr (some (1, 74))), some (zr (some (7, o2))), none], [], y)) (zG_run t_Diagnosis [(.aload_n 0, 0, 0), (.iconst 0, 0, 0), (.putfield 18, 2, 1)] (5, [some (zr (some (2, 152))), some (zr (some (1, 74))), some (zr (some (7, o2))), none], [], zsI h 152 1 0) (by decide +kernel) rfl (zG_end (L' := [some (zr (some (2, 152))), some (zr (some (1, 74))), some (zr (some (7, o2))), none]) rfl (And.intro rfl (And.intro rfl (And.intro rfl trivial))))) fun h1 => ?_
  refine zG_run t_Diagnosis [(.iconst 0, 0, 0), (.istore_n 3, 0, 0)] (7, [some (zr (some (2, 152))), some (zr (some (1, 74))), some (zr (some (7, o2))), some (zi 0)], [], h1) (by decide +kernel) rfl ?_
  refine zG_forget (L' := [some (zr (some (2, 152))), some (zr (some (1, 74))), some (zr (some (7, o2))), some (zi 0)]) (And.intro rfl (And.intro rfl (And.intro rfl (And.intro rfl trivial)))) ?_
  refine zG_bind (fun y : zH => (51, [some (zr (some (2, 152))), some (zr (some (1, 74))), some (zr (some (7, o2))), none], [], y)) (zG_iter (fun s : Int32 × zH => (7, [some (zr (some (2, 152))), some (zr (some (1, 74))), some (zr (some (7, o2))), some (zi s.1)], [], s.2)) fun s => k_Diagnosis_gather_b7 hl) (fun y9 => ?_)
  refine zG_run t_Diagnosis [(.aload_n 0, 0, 0), (.aload_n 0, 0, 0), (.aload_n 1, 0, 0), (.aload_n 2, 0, 0), (.iconst (-1), 0, 0)] (56, [some (zr (some (2, 152))), some (zr (some (1, 74))), some (zr (some (7, o2))), none], [zi (-1), zr (some (7, o2)), zr (some (1, 74)), zr (some (2, 152)), zr (some (2, 152))], y9) (by decide +kernel) rfl ?_
  refine zG_callV (idx := 27) (R := (fun a => (some (zi a), y9))) (as := [zr (some (1, 74)), zr (some (7, o2)), zi (-1)]) (rest := [zr (some (2, 152))]) (n := 3) (fun a ha => c_Diagnosis_isSo hl ha) (by decide +kernel) ⟨ok_Diagnosis_isSo, by decide, by decide +kernel⟩ rfl w_347 w_348 w_349 (by decide) rfl rfl rfl (Nat.le_of_ble_eq_true rfl) fun x10 => ?_
  refine zG_guard fun hb12 => ?_
  refine zG_bind (fun y => (62, [some (zr (some (2, 152))), some (zr (some (1, 74))), some (zr (some (7, o2))), none], [], y)) ?_ fun h11 => ?_
  · exact zG_putb (c := 2) (k := 2) (idx := 31) (by decide +kernel) (by decide) (by decide) w_350 rfl rfl hb12 (zG_end (L' := [some (zr (some (2, 152))), some (zr (some (1, 74))), some (zr (some (7, o2))), none]) rfl (And.intro rfl (And.intro rfl (And.intro rfl trivial))))
  refine zG_run t_Diagnosis [(.aload_n 0, 0, 0), (.getfield 31, 2, 2)] (66, [some (zr (some (2, 152))), some (zr (some (1, 74))), some (zr (some (7, o2))), none], [zi (h11.1 152 2)], h11) (by decide +kernel) rfl ?_
  refine zG_if (op := .eq) (off := 13) (tgt := 79) (by decide +kernel) rfl Iff.rfl (fun c15 => ?_) (fun c15 => ?_)
  · exact zG_ret (r := none) rfl (zrd_v rfl (by decide +kernel))
  · refine zG_run t_Diagnosis [(.aload_n 0, 0, 0), (.getfield 9, 2, 0), (.aload_n 0, 0, 0), (.getfield 18, 2, 1), (.iconst (-1), 0, 0)] (78, [some (zr (some (2, 152))), some (zr (some (1, 74))), some (zr (some (7, o2))), none], [zi (-1), zi (h11.1 152 1), zr (some (52, 153))], h11) (by decide +kernel) rfl ?_
    refine zG_guard fun hb14 => ?_
    refine zG_bind (fun y => (79, [some (zr (some (2, 152))), some (zr (some (1, 74))), some (zr (some (7, o2))), none], [], y)) (zG_astc (h' := zsI h11 153 (h11.1 152 1).toNatClampNeg (-1)) rfl (by decide +kernel) hb14 rfl (zG_end (L' := [some (zr (some (2, 152))), some (zr (some (1, 74))), some (zr (some (7, o2))), none]) rfl (And.intro rfl (And.intro rfl (And.intro rfl trivial))))) fun h13 => ?_
    exact zG_ret (r := none) rfl (zrd_v rfl (by decide +kernel))
theorem c_Diagnosis_gather {l : Launch} {X : zX} (hl : l.stackTraces = false) {o2 : Nat} {h : zH} {x : zH} (hx : f_Diagnosis_gather o2 h = some x) : zCt l (true, 2) 2 m_Diagnosis_gather X 0 0 [zr (some (2, 152)), zr (some (1, 74)), zr (some (7, o2))] h ((fun a => (.inl none, a) : zH → zF) x) :=
  zG_ct (R := fun a => (.inl none, a)) (x := x) ok_Diagnosis_gather hl (Nat.le_of_ble_eq_true rfl) hx (k_Diagnosis_gather hl)
def m_Main_fits : zM := (({ cls := "ScanPacker", name := "fits", desc := "(I)I" } : Jvm.MethodName), prog_1_method_26_code, 2, (Option.some Jvm.ClassFile.FieldType.int), [], 6)
theorem ok_Main_fits : zMok m_Main_fits := ⟨by decide +kernel, zW_of 1303 (by decide +kernel) (by decide +kernel), zW_of 122 (by decide +kernel) (by decide +kernel), by decide, by decide +kernel, by decide +kernel⟩
set_option maxRecDepth 20000 in
theorem k_Main_fits_j32 {l : Launch} {X : zX} (hl : l.stackTraces = false) {h : zH} : zGl l m_Main_fits X 1 6 (f_Main_fits_j32 h) (32, [none, none], [], h) (fun x => .inr ((Sum.elim (fun a => (.inl (some (zi a.1)), a.2)) (fun q => (.inr q.1, q.2)) : (Int32 × zH) ⊕ (Nat × zH) → zF) x)) := by
  unfold f_Main_fits_j32
  refine zG_mono (bc' := 0 + 1) (bs' := 0 + 6) (by decide) (by decide) ?_
  exact zG_throw (k := 1) (ik := 109) (ic := 111) rfl (Or.inl rfl) (by decide +kernel) (by decide +kernel) (by decide +kernel) (by decide +kernel) w_176 w_177 (by decide +kernel) (by decide +kernel) (Nat.le_of_ble_eq_true rfl) (by decide) rfl
set_option maxRecDepth 20000 in
theorem k_Main_fits {l : Launch} {X : zX} (hl : l.stackTraces = false) {h : zH} {v1 : Int32} : zGl l m_Main_fits X 1 6 (f_Main_fits h v1) (0, [some (zr (some (0, 0))), some (zi v1)], [], h) (fun x => .inr ((Sum.elim (fun a => (.inl (some (zi a.1)), a.2)) (fun q => (.inr q.1, q.2)) : (Int32 × zH) ⊕ (Nat × zH) → zF) x)) := by
  unfold f_Main_fits
  refine zG_run t_Main [(.aload_n 0, 0, 0), (.getfield 51, 0, 6), (.aload_n 0, 0, 0), (.getfield 30, 0, 3), (.aload_n 0, 0, 0), (.getfield 58, 0, 7)] (12, [some (zr (some (0, 0))), some (zi v1)], [zr (some (7, 155)), zr (some (1, 74)), zr (some (2, 152))], h) (by decide +kernel) rfl ?_
  refine zG_callV (idx := 322) (R := (fun a => (none, a))) (as := [zr (some (1, 74)), zr (some (7, 155))]) (rest := []) (n := 2) (fun a ha => c_Diagnosis_gather hl ha) (by decide +kernel) ⟨ok_Diagnosis_gather, by decide, by decide +kernel⟩ rfl w_351 w_352 w_353 (by decide) rfl rfl rfl (Nat.le_of_ble_eq_true rfl) fun x1 => ?_
  refine zG_run t_Main [(.iload_n 1, 0, 0), (.bipush (-2), 0, 0)] (18, [some (zr (some (0, 0))), some (zi v1)], [zi (-2), zi v1], x1) (by decide +kernel) rfl ?_
  refine zG_icmp (op := .lt) (off := 14) (tgt := 32) (by decide +kernel) rfl Iff.rfl (fun c7 => ?_) (fun c7 => ?_)
  · refine zG_mono (bc' := 1) (bs' := 6) (by decide) (by decide) ?_
    exact zG_forget (L' := [none, none]) (trivial) (k_Main_fits_j32 hl)
  · refine zG_run t_Main [(.iload_n 1, 0, 0), (.aload_n 0, 0, 0), (.getfield 51, 0, 6), (.getfield 326, 2, 1)] (29, [some (zr (some (0, 0))), some (zi v1)], [zi (x1.1 152 1), zi v1], x1) (by decide +kernel) rfl ?_
    refine zG_icmp (op := .lt) (off := 11) (tgt := 40) (by decide +kernel) rfl Iff.rfl (fun c6 => ?_) (fun c6 => ?_)
    · refine zG_run t_Main [(.iload_n 1, 0, 0), (.bipush (-2), 0, 0)] (43, [some (zr (some (0, 0))), some (zi v1)], [zi (-2), zi v1], x1) (by decide +kernel) rfl ?_
      refine zG_icmp (op := .ne) (off := 19) (tgt := 62) (by decide +kernel) rfl Iff.rfl (fun c5 => ?_) (fun c5 => ?_)
      · refine zG_run t_Main [(.iload_n 1, 0, 0), (.iconst (-1), 0, 0)] (64, [some (zr (some (0, 0))), some (zi v1)], [zi (-1), zi v1], x1) (by decide +kernel) rfl ?_
        refine zG_icmp (op := .ne) (off := 13) (tgt := 77) (by decide +kernel) rfl Iff.rfl (fun c3 => ?_) (fun c3 => ?_)
        · refine zG_run t_Main [(.aload_n 0, 0, 0), (.getfield 51, 0, 6), (.getfield 332, 2, 0), (.iload_n 1, 0, 0)] (85, [some (zr (some (0, 0))), some (zi v1)], [zi v1, zr (some (52, 153))], x1) (by decide +kernel) rfl ?_
          refine zG_ald (v := zi (x1.1 153 v1.toNatClampNeg)) (n := 45) rfl (by decide +kernel) rfl rfl fun hb2 => ?_
          exact zG_ret (r := some (zi (x1.1 153 v1.toNatClampNeg))) rfl (zrd_i rfl (by decide +kernel))
        · refine zG_run t_Main [(.aload_n 0, 0, 0), (.getfield 51, 0, 6), (.getfield 326, 2, 1), (.goto 12, 0, 0)] (86, [some (zr (some (0, 0))), some (zi v1)], [zi (x1.1 152 1)], x1) (by decide +kernel) rfl ?_
          exact zG_ret (r := some (zi (x1.1 152 1))) rfl (zrd_i rfl (by decide +kernel))
      · refine zG_run t_Main [(.aload_n 0, 0, 0), (.getfield 51, 0, 6), (.getfield 329, 2, 2)] (53, [some (zr (some (0, 0))), some (zi v1)], [zi (x1.1 152 2)], x1) (by decide +kernel) rfl ?_
        refine zG_if (op := .eq) (off := 7) (tgt := 60) (by decide +kernel) rfl Iff.rfl (fun c4 => ?_) (fun c4 => ?_)
        · refine zG_run t_Main [(.iconst 0, 0, 0)] (61, [some (zr (some (0, 0))), some (zi v1)], [zi 0], x1) (by decide +kernel) rfl ?_
          exact zG_ret (r := some (zi 0)) rfl (zrd_i rfl (by decide +kernel))
        · refine zG_run t_Main [(.iconst 1, 0, 0), (.goto 4, 0, 0)] (61, [some (zr (some (0, 0))), some (zi v1)], [zi 1], x1) (by decide +kernel) rfl ?_
          exact zG_ret (r := some (zi 1)) rfl (zrd_i rfl (by decide +kernel))
    · refine zG_mono (bc' := 1) (bs' := 6) (by decide) (by decide) ?_
      exact zG_forget (L' := [none, none]) (trivial) (k_Main_fits_j32 hl)
theorem c_Main_fits {l : Launch} {X : zX} (hl : l.stackTraces = false) {h : zH} {v1 : Int32} {x : (Int32 × zH) ⊕ (Nat × zH)} (hx : f_Main_fits h v1 = some x) : zCt l (true, 2) 2 m_Main_fits X 1 6 [zr (some (0, 0)), zi v1] h ((Sum.elim (fun a => (.inl (some (zi a.1)), a.2)) (fun q => (.inr q.1, q.2)) : (Int32 × zH) ⊕ (Nat × zH) → zF) x) :=
  zG_ct (R := Sum.elim (fun a => (.inl (some (zi a.1)), a.2)) (fun q => (.inr q.1, q.2))) (x := x) ok_Main_fits hl (Nat.le_of_ble_eq_true rfl) hx (k_Main_fits hl)
def m_Diagnosis_countUnlike : zM := (({ cls := "ScanPacker$Diagnosis", name := "countUnlike", desc := "(LScanPacker$Net;LScanPacker$Catalog;)V" } : Jvm.MethodName), prog_3_method_5_code, 8, (Option.none : Option Jvm.ClassFile.FieldType), [], 4)
theorem ok_Diagnosis_countUnlike : zMok m_Diagnosis_countUnlike := ⟨by decide +kernel, zW_of 1327 (by decide +kernel) (by decide +kernel), zW_of 130 (by decide +kernel) (by decide +kernel), by decide, by decide +kernel, by decide +kernel⟩
set_option maxRecDepth 20000 in
theorem k_Diagnosis_countUnlike_b2 {l : Launch} {X : zX} (hl : l.stackTraces = false) {o1 : Nat} {h : zH} {v3 : Int32} : zGl l m_Diagnosis_countUnlike X 0 0 (f_Diagnosis_countUnlike_b2 o1 h v3) (2, [some (zr (some (2, 152))), some (zr (some (3, o1))), some (zr (some (1, 74))), some (zi v3), none, none, none, none], [], h) (Sum.elim (fun s : Int32 × zH => .inl (2, [some (zr (some (2, 152))), some (zr (some (3, o1))), some (zr (some (1, 74))), some (zi s.1), none, none, none, none], [], s.2)) (fun y : zH => .inl (21, [some (zr (some (2, 152))), some (zr (some (3, o1))), some (zr (some (1, 74))), none, none, none, none, none], [], y))) := by
  unfold f_Diagnosis_countUnlike_b2
  refine zG_run t_Diagnosis [(.iload_n 3, 0, 0), (.bipush 64, 0, 0)] (5, [some (zr (some (2, 152))), some (zr (some (3, o1))), some (zr (some (1, 74))), some (zi v3), none, none, none, none], [zi 64, zi v3], h) (by decide +kernel) rfl ?_
  refine zG_icmp (op := .ge) (off := 16) (tgt := 21) (by decide +kernel) rfl Iff.rfl (fun c3 => ?_) (fun c3 => ?_)
  · exact zG_end (L' := [some (zr (some (2, 152))), some (zr (some (3, o1))), some (zr (some (1, 74))), none, none, none, none, none]) rfl (And.intro rfl (And.intro rfl (And.intro rfl trivial)))
  · refine zG_run t_Diagnosis [(.aload_n 0, 0, 0), (.getfield 15, 2, 5), (.iload_n 3, 0, 0), (.iconst 0, 0, 0)] (14, [some (zr (some (2, 152))), some (zr (some (3, o1))), some (zr (some (1, 74))), some (zi v3), none, none, none, none], [zi 0, zi v3, zr (some (53, 154))], h) (by decide +kernel) rfl ?_
    refine zG_guard fun hb2 => ?_
    refine zG_bind (fun y => (15, [some (zr (some (2, 152))), some (zr (some (3, o1))), some (zr (some (1, 74))), some (zi v3), none, none, none, none], [], y)) (zG_astc (h' := zsI h 154 v3.toNatClampNeg 0) rfl (by decide +kernel) hb2 rfl (zG_end (L' := [some (zr (some (2, 152))), some (zr (some (3, o1))), some (zr (some (1, 74))), some (zi v3), none, none, none, none]) rfl (And.intro rfl (And.intro rfl (And.intro rfl (And.intro rfl trivial)))))) fun h1 => ?_
    refine zG_run t_Diagnosis [(.iinc 3 1, 0, 0), (.goto (-16), 0, 0)] (2, [some (zr (some (2, 152))), some (zr (some (3, o1))), some (zr (some (1, 74))), some (zi (v3 + 1)), none, none, none, none], [], h1) (by decide +kernel) rfl ?_
    exact zG_end (L' := [some (zr (some (2, 152))), some (zr (some (3, o1))), some (zr (some (1, 74))), some (zi (v3 + 1)), none, none, none, none]) rfl (And.intro rfl (And.intro rfl (And.intro rfl (And.intro rfl trivial))))
set_option maxRecDepth 20000 in
theorem k_Diagnosis_countUnlike_b60 {l : Launch} {X : zX} (hl : l.stackTraces = false) {o1 : Nat} {h : zH} {v3 : Int32} {v4 : Int32} {v5 : Int64} {v7 : Int32} : zGl l m_Diagnosis_countUnlike X 0 0 (f_Diagnosis_countUnlike_b60 o1 h v3 v4 v5 v7) (60, [some (zr (some (2, 152))), some (zr (some (3, o1))), some (zr (some (1, 74))), some (zi v3), some (zi v4), some (zl v5), none, some (zi v7)], [], h) (Sum.elim (fun s : Int64 × Int32 => .inl (60, [some (zr (some (2, 152))), some (zr (some (3, o1))), some (zr (some (1, 74))), some (zi v3), some (zi v4), some (zl s.1), none, some (zi s.2)], [], h)) (fun y : Int64 => .inl (104, [some (zr (some (2, 152))), some (zr (some (3, o1))), some (zr (some (1, 74))), some (zi v3), some (zi v4), some (zl y), none, none], [], h))) := by
  unfold f_Diagnosis_countUnlike_b60
  refine zG_run t_Diagnosis [(.iload 7, 0, 0), (.iload 4, 0, 0)] (64, [some (zr (some (2, 152))), some (zr (some (3, o1))), some (zr (some (1, 74))), some (zi v3), some (zi v4), some (zl v5), none, some (zi v7)], [zi v4, zi v7], h) (by decide +kernel) rfl ?_
  refine zG_icmp (op := .ge) (off := 40) (tgt := 104) (by decide +kernel) rfl Iff.rfl (fun c11 => ?_) (fun c11 => ?_)
  · exact zG_end (L' := [some (zr (some (2, 152))), some (zr (some (3, o1))), some (zr (some (1, 74))), some (zi v3), some (zi v4), some (zl v5), none, none]) rfl (And.intro rfl (And.intro rfl (And.intro rfl (And.intro rfl (And.intro rfl (And.intro rfl trivial))))))
  · refine zG_run t_Diagnosis [(.lload 5, 0, 0), (.lconst 0, 0, 0), (.lcmp, 0, 0)] (71, [some (zr (some (2, 152))), some (zr (some (3, o1))), some (zr (some (1, 74))), some (zi v3), some (zi v4), some (zl v5), none, some (zi v7)], [zi (lg_cmp v5 0)], h) (by decide +kernel) rfl ?_
    refine zG_if (op := .eq) (off := 33) (tgt := 104) (by decide +kernel) rfl zcmp0 (fun c10 => ?_) (fun c10 => ?_)
    · exact zG_end (L' := [some (zr (some (2, 152))), some (zr (some (3, o1))), some (zr (some (1, 74))), some (zi v3), some (zi v4), some (zl v5), none, none]) rfl (And.intro rfl (And.intro rfl (And.intro rfl (And.intro rfl (And.intro rfl (And.intro rfl trivial))))))
    · refine zG_run t_Diagnosis [(.lload 5, 0, 0), (.aload_n 2, 0, 0), (.aload_n 1, 0, 0), (.aload_n 0, 0, 0), (.getfield 9, 2, 0), (.iload 4, 0, 0)] (84, [some (zr (some (2, 152))), some (zr (some (3, o1))), some (zr (some (1, 74))), some (zi v3), some (zi v4), some (zl v5), none, some (zi v7)], [zi v4, zr (some (52, 153)), zr (some (3, o1)), zr (some (1, 74)), zl v5], h) (by decide +kernel) rfl ?_
      refine zG_ald (v := zi (h.1 153 v4.toNatClampNeg)) (n := 45) rfl (by decide +kernel) rfl rfl fun hb7 => ?_
      refine zG_run t_Diagnosis [(.aload_n 0, 0, 0), (.getfield 9, 2, 0), (.iload 7, 0, 0)] (91, [some (zr (some (2, 152))), some (zr (some (3, o1))), some (zr (some (1, 74))), some (zi v3), some (zi v4), some (zl v5), none, some (zi v7)], [zi v7, zr (some (52, 153)), zi (h.1 153 v4.toNatClampNeg), zr (some (3, o1)), zr (some (1, 74)), zl v5], h) (by decide +kernel) rfl ?_
      refine zG_ald (v := zi (h.1 153 v7.toNatClampNeg)) (n := 45) rfl (by decide +kernel) rfl rfl fun hb8 => ?_
      refine zG_callV (idx := 70) (R := (fun a => (some (zl a), h))) (as := [zr (some (3, o1)), zi (h.1 153 v4.toNatClampNeg), zi (h.1 153 v7.toNatClampNeg)]) (rest := [zl v5]) (n := 3) (fun a ha => c_Catalog_unlike hl ha) (by decide +kernel) ⟨ok_Catalog_unlike, by decide, by decide +kernel⟩ rfl w_355 w_129 w_130 (by decide) rfl rfl rfl (Nat.le_of_ble_eq_true rfl) fun x9 => ?_
      refine zG_run t_Diagnosis [(.land, 0, 0), (.lstore 5, 0, 0), (.iinc 7 1, 0, 0), (.goto (-41), 0, 0)] (60, [some (zr (some (2, 152))), some (zr (some (3, o1))), some (zr (some (1, 74))), some (zi v3), some (zi v4), some (zl (v5 &&& x9)), none, some (zi (v7 + 1))], [], h) (by decide +kernel) rfl ?_
      exact zG_end (L' := [some (zr (some (2, 152))), some (zr (some (3, o1))), some (zr (some (1, 74))), some (zi v3), some (zi v4), some (zl (v5 &&& x9)), none, some (zi (v7 + 1))]) rfl (And.intro rfl (And.intro rfl (And.intro rfl (And.intro rfl (And.intro rfl (And.intro rfl (And.intro rfl trivial)))))))
set_option maxRecDepth 20000 in
theorem k_Diagnosis_countUnlike_b107 {l : Launch} {X : zX} (hl : l.stackTraces = false) {o1 : Nat} {h : zH} {v3 : Int32} {v4 : Int32} {v5 : Int64} {v7 : Int32} : zGl l m_Diagnosis_countUnlike X 0 0 (f_Diagnosis_countUnlike_b107 o1 h v3 v4 v5 v7) (107, [some (zr (some (2, 152))), some (zr (some (3, o1))), some (zr (some (1, 74))), some (zi v3), some (zi v4), some (zl v5), none, some (zi v7)], [], h) (Sum.elim (fun s : Int32 × zH => .inl (107, [some (zr (some (2, 152))), some (zr (some (3, o1))), some (zr (some (1, 74))), some (zi v3), some (zi v4), some (zl v5), none, some (zi s.1)], [], s.2)) (fun y : zH => .inl (140, [some (zr (some (2, 152))), some (zr (some (3, o1))), some (zr (some (1, 74))), some (zi v3), some (zi v4), none, none, none], [], y))) := by
  unfold f_Diagnosis_countUnlike_b107
  refine zG_run t_Diagnosis [(.iload 7, 0, 0), (.aload_n 2, 0, 0), (.getfield 63, 1, 1)] (113, [some (zr (some (2, 152))), some (zr (some (3, o1))), some (zr (some (1, 74))), some (zi v3), some (zi v4), some (zl v5), none, some (zi v7)], [zi (h.1 74 1), zi v7], h) (by decide +kernel) rfl ?_
  refine zG_icmp (op := .ge) (off := 27) (tgt := 140) (by decide +kernel) rfl Iff.rfl (fun c17 => ?_) (fun c17 => ?_)
  · exact zG_end (L' := [some (zr (some (2, 152))), some (zr (some (3, o1))), some (zr (some (1, 74))), some (zi v3), some (zi v4), none, none, none]) rfl (And.intro rfl (And.intro rfl (And.intro rfl (And.intro rfl (And.intro rfl trivial)))))
  · refine zG_run t_Diagnosis [(.aload_n 0, 0, 0), (.getfield 15, 2, 5), (.iload 7, 0, 0), (.dup2, 0, 0)] (123, [some (zr (some (2, 152))), some (zr (some (3, o1))), some (zr (some (1, 74))), some (zi v3), some (zi v4), some (zl v5), none, some (zi v7)], [zi v7, zr (some (53, 154)), zi v7, zr (some (53, 154))], h) (by decide +kernel) rfl ?_
    refine zG_ald (v := zi (h.1 154 v7.toNatClampNeg)) (n := 64) rfl (by decide +kernel) rfl rfl fun hb14 => ?_
    refine zG_run t_Diagnosis [(.lload 5, 0, 0), (.iload 7, 0, 0), (.lushr, 0, 0), (.l2i, 0, 0), (.iconst 1, 0, 0), (.iand, 0, 0), (.iadd, 0, 0)] (133, [some (zr (some (2, 152))), some (zr (some (3, o1))), some (zr (some (1, 74))), some (zi v3), some (zi v4), some (zl v5), none, some (zi v7)], [zi ((h.1 154 v7.toNatClampNeg) + ((zlushr v5 v7).toInt32 &&& 1)), zi v7, zr (some (53, 154))], h) (by decide +kernel) rfl ?_
    refine zG_guard fun hb16 => ?_
    refine zG_bind (fun y => (134, [some (zr (some (2, 152))), some (zr (some (3, o1))), some (zr (some (1, 74))), some (zi v3), some (zi v4), some (zl v5), none, some (zi v7)], [], y)) (zG_astc (h' := zsI h 154 v7.toNatClampNeg ((h.1 154 v7.toNatClampNeg) + ((zlushr v5 v7).toInt32 &&& 1))) rfl (by decide +kernel) hb16 rfl (zG_end (L' := [some (zr (some (2, 152))), some (zr (some (3, o1))), some (zr (some (1, 74))), some (zi v3), some (zi v4), some (zl v5), none, some (zi v7)]) rfl (And.intro rfl (And.intro rfl (And.intro rfl (And.intro rfl (And.intro rfl (And.intro rfl (And.intro rfl trivial))))))))) fun h15 => ?_
    refine zG_run t_Diagnosis [(.iinc 7 1, 0, 0), (.goto (-30), 0, 0)] (107, [some (zr (some (2, 152))), some (zr (some (3, o1))), some (zr (some (1, 74))), some (zi v3), some (zi v4), some (zl v5), none, some (zi (v7 + 1))], [], h15) (by decide +kernel) rfl ?_
    exact zG_end (L' := [some (zr (some (2, 152))), some (zr (some (3, o1))), some (zr (some (1, 74))), some (zi v3), some (zi v4), some (zl v5), none, some (zi (v7 + 1))]) rfl (And.intro rfl (And.intro rfl (And.intro rfl (And.intro rfl (And.intro rfl (And.intro rfl (And.intro rfl trivial)))))))
set_option maxRecDepth 20000 in
theorem k_Diagnosis_countUnlike_b45 {l : Launch} {X : zX} (hl : l.stackTraces = false) {o1 : Nat} {h : zH} {v3 : Int32} {v4 : Int32} : zGl l m_Diagnosis_countUnlike X 0 0 (f_Diagnosis_countUnlike_b45 o1 h v3 v4) (45, [some (zr (some (2, 152))), some (zr (some (3, o1))), some (zr (some (1, 74))), some (zi v3), some (zi v4), none, none, none], [], h) (Sum.elim (fun s : Int32 × zH => .inl (45, [some (zr (some (2, 152))), some (zr (some (3, o1))), some (zr (some (1, 74))), some (zi v3), some (zi s.1), none, none, none], [], s.2)) (fun y : zH => .inl (146, [none, none, none, none, none, none, none, none], [], y))) := by
  unfold f_Diagnosis_countUnlike_b45
  refine zG_run t_Diagnosis [(.iload 4, 0, 0), (.iload_n 3, 0, 0)] (48, [some (zr (some (2, 152))), some (zr (some (3, o1))), some (zr (some (1, 74))), some (zi v3), some (zi v4), none, none, none], [zi v3, zi v4], h) (by decide +kernel) rfl ?_
  refine zG_icmp (op := .ge) (off := 98) (tgt := 146) (by decide +kernel) rfl Iff.rfl (fun c20 => ?_) (fun c20 => ?_)
  · exact zG_end (L' := [none, none, none, none, none, none, none, none]) rfl (trivial)
  · refine zG_run t_Diagnosis [(.aload_n 2, 0, 0)] (52, [some (zr (some (2, 152))), some (zr (some (3, o1))), some (zr (some (1, 74))), some (zi v3), some (zi v4), none, none, none], [zr (some (1, 74))], h) (by decide +kernel) rfl ?_
    refine zG_callV (idx := 66) (R := (fun a => (some (zl a), h))) (as := []) (rest := []) (n := 0) (fun a ha => c_Catalog_allRows hl ha) (by decide +kernel) ⟨ok_Catalog_allRows, by decide, by decide +kernel⟩ rfl w_354 w_120 w_121 (by decide) rfl rfl rfl (Nat.le_of_ble_eq_true rfl) fun x6 => ?_
    refine zG_run t_Diagnosis [(.lstore 5, 0, 0), (.iconst 0, 0, 0), (.istore 7, 0, 0)] (60, [some (zr (some (2, 152))), some (zr (some (3, o1))), some (zr (some (1, 74))), some (zi v3), some (zi v4), some (zl x6), none, some (zi 0)], [], h) (by decide +kernel) rfl ?_
    refine zG_forget (L' := [some (zr (some (2, 152))), some (zr (some (3, o1))), some (zr (some (1, 74))), some (zi v3), some (zi v4), some (zl x6), none, some (zi 0)]) (And.intro rfl (And.intro rfl (And.intro rfl (And.intro rfl (And.intro rfl (And.intro rfl (And.intro rfl trivial))))))) ?_
    refine zG_bind (fun y : Int64 => (104, [some (zr (some (2, 152))), some (zr (some (3, o1))), some (zr (some (1, 74))), some (zi v3), some (zi v4), some (zl y), none, none], [], h)) (zG_iter (fun s : Int64 × Int32 => (60, [some (zr (some (2, 152))), some (zr (some (3, o1))), some (zr (some (1, 74))), some (zi v3), some (zi v4), some (zl s.1), none, some (zi s.2)], [], h)) fun s => k_Diagnosis_countUnlike_b60 hl) (fun y13 => ?_)
    refine zG_run t_Diagnosis [(.iconst 0, 0, 0), (.istore 7, 0, 0)] (107, [some (zr (some (2, 152))), some (zr (some (3, o1))), some (zr (some (1, 74))), some (zi v3), some (zi v4), some (zl y13), none, some (zi 0)], [], h) (by decide +kernel) rfl ?_
    refine zG_forget (L' := [some (zr (some (2, 152))), some (zr (some (3, o1))), some (zr (some (1, 74))), some (zi v3), some (zi v4), some (zl y13), none, some (zi 0)]) (And.intro rfl (And.intro rfl (And.intro rfl (And.intro rfl (And.intro rfl (And.intro rfl (And.intro rfl trivial))))))) ?_
    refine zG_bind (fun y : zH => (140, [some (zr (some (2, 152))), some (zr (some (3, o1))), some (zr (some (1, 74))), some (zi v3), some (zi v4), none, none, none], [], y)) (zG_iter (fun s : Int32 × zH => (107, [some (zr (some (2, 152))), some (zr (some (3, o1))), some (zr (some (1, 74))), some (zi v3), some (zi v4), some (zl y13), none, some (zi s.1)], [], s.2)) fun s => k_Diagnosis_countUnlike_b107 hl) (fun y19 => ?_)
    refine zG_run t_Diagnosis [(.iinc 4 1, 0, 0), (.goto (-98), 0, 0)] (45, [some (zr (some (2, 152))), some (zr (some (3, o1))), some (zr (some (1, 74))), some (zi v3), some (zi (v4 + 1)), none, none, none], [], y19) (by decide +kernel) rfl ?_
    exact zG_end (L' := [some (zr (some (2, 152))), some (zr (some (3, o1))), some (zr (some (1, 74))), some (zi v3), some (zi (v4 + 1)), none, none, none]) rfl (And.intro rfl (And.intro rfl (And.intro rfl (And.intro rfl (And.intro rfl trivial)))))
set_option maxRecDepth 20000 in
theorem k_Diagnosis_countUnlike_j41 {l : Launch} {X : zX} (hl : l.stackTraces = false) {o1 : Nat} {h : zH} {t0 : Int32} : zGl l m_Diagnosis_countUnlike X 0 0 (f_Diagnosis_countUnlike_j41 o1 h t0) (41, [some (zr (some (2, 152))), some (zr (some (3, o1))), some (zr (some (1, 74))), none, none, none, none, none], [zi t0], h) (fun x => .inr ((fun a => (.inl none, a) : zH → zF) x)) := by
  unfold f_Diagnosis_countUnlike_j41
  refine zG_run t_Diagnosis [(.istore_n 3, 0, 0), (.iconst 0, 0, 0), (.istore 4, 0, 0)] (45, [some (zr (some (2, 152))), some (zr (some (3, o1))), some (zr (some (1, 74))), some (zi t0), some (zi 0), none, none, none], [], h) (by decide +kernel) rfl ?_
  refine zG_forget (L' := [some (zr (some (2, 152))), some (zr (some (3, o1))), some (zr (some (1, 74))), some (zi t0), some (zi 0), none, none, none]) (And.intro rfl (And.intro rfl (And.intro rfl (And.intro rfl (And.intro rfl trivial))))) ?_
  refine zG_bind (fun y : zH => (146, [none, none, none, none, none, none, none, none], [], y)) (zG_iter (fun s : Int32 × zH => (45, [some (zr (some (2, 152))), some (zr (some (3, o1))), some (zr (some (1, 74))), some (zi t0), some (zi s.1), none, none, none], [], s.2)) fun s => k_Diagnosis_countUnlike_b45 hl) (fun y22 => ?_)
  exact zG_ret (r := none) rfl (zrd_v rfl (by decide +kernel))
set_option maxRecDepth 20000 in
theorem k_Diagnosis_countUnlike {l : Launch} {X : zX} (hl : l.stackTraces = false) {o1 : Nat} {h : zH} : zGl l m_Diagnosis_countUnlike X 0 0 (f_Diagnosis_countUnlike o1 h) (0, [some (zr (some (2, 152))), some (zr (some (3, o1))), some (zr (some (1, 74))), none, none, none, none, none], [], h) (fun x => .inr ((fun a => (.inl none, a) : zH → zF) x)) := by
  unfold f_Diagnosis_countUnlike
  refine zG_run t_Diagnosis [(.iconst 0, 0, 0), (.istore_n 3, 0, 0)] (2, [some (zr (some (2, 152))), some (zr (some (3, o1))), some (zr (some (1, 74))), some (zi 0), none, none, none, none], [], h) (by decide +kernel) rfl ?_
  refine zG_forget (L' := [some (zr (some (2, 152))), some (zr (some (3, o1))), some (zr (some (1, 74))), some (zi 0), none, none, none, none]) (And.intro rfl (And.intro rfl (And.intro rfl (And.intro rfl trivial)))) ?_
  refine zG_bind (fun y : zH => (21, [some (zr (some (2, 152))), some (zr (some (3, o1))), some (zr (some (1, 74))), none, none, none, none, none], [], y)) (zG_iter (fun s : Int32 × zH => (2, [some (zr (some (2, 152))), some (zr (some (3, o1))), some (zr (some (1, 74))), some (zi s.1), none, none, none, none], [], s.2)) fun s => k_Diagnosis_countUnlike_b2 hl) (fun y5 => ?_)
  refine zG_run t_Diagnosis [(.aload_n 0, 0, 0), (.getfield 31, 2, 2)] (25, [some (zr (some (2, 152))), some (zr (some (3, o1))), some (zr (some (1, 74))), none, none, none, none, none], [zi (y5.1 152 2)], y5) (by decide +kernel) rfl ?_
  refine zG_if (op := .eq) (off := 12) (tgt := 37) (by decide +kernel) rfl Iff.rfl (fun c23 => ?_) (fun c23 => ?_)
  · refine zG_run t_Diagnosis [(.aload_n 0, 0, 0), (.getfield 18, 2, 1)] (41, [some (zr (some (2, 152))), some (zr (some (3, o1))), some (zr (some (1, 74))), none, none, none, none, none], [zi (y5.1 152 1)], y5) (by decide +kernel) rfl ?_
    exact zG_forget (L' := [some (zr (some (2, 152))), some (zr (some (3, o1))), some (zr (some (1, 74))), none, none, none, none, none]) (And.intro rfl (And.intro rfl (And.intro rfl trivial))) (k_Diagnosis_countUnlike_j41 hl)
  · refine zG_run t_Diagnosis [(.aload_n 0, 0, 0), (.getfield 18, 2, 1), (.iconst 1, 0, 0), (.iadd, 0, 0), (.goto 7, 0, 0)] (41, [some (zr (some (2, 152))), some (zr (some (3, o1))), some (zr (some (1, 74))), none, none, none, none, none], [zi ((y5.1 152 1) + 1)], y5) (by decide +kernel) rfl ?_
    exact zG_forget (L' := [some (zr (some (2, 152))), some (zr (some (3, o1))), some (zr (some (1, 74))), none, none, none, none, none]) (And.intro rfl (And.intro rfl (And.intro rfl trivial))) (k_Diagnosis_countUnlike_j41 hl)
theorem c_Diagnosis_countUnlike {l : Launch} {X : zX} (hl : l.stackTraces = false) {o1 : Nat} {h : zH} {x : zH} (hx : f_Diagnosis_countUnlike o1 h = some x) : zCt l (true, 2) 2 m_Diagnosis_countUnlike X 0 0 [zr (some (2, 152)), zr (some (3, o1)), zr (some (1, 74))] h ((fun a => (.inl none, a) : zH → zF) x) :=
  zG_ct (R := fun a => (.inl none, a)) (x := x) ok_Diagnosis_countUnlike hl (Nat.le_of_ble_eq_true rfl) hx (k_Diagnosis_countUnlike hl)
