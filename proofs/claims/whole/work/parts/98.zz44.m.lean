/-! methods, by wip/whole/gen.py -/
def m_Mod_refuse : zM := (({ cls := "ScanPackerModel", name := "refuse", desc := "(I)I" } : Jvm.MethodName), prog_13_method_79_code, 2, (Option.some Jvm.ClassFile.FieldType.int), [], 1)
theorem ok_Mod_refuse : zMok m_Mod_refuse := ⟨by decide +kernel, zW_of 1938 (by decide +kernel) (by decide +kernel), zW_of 134 (by decide +kernel) (by decide +kernel), by decide, by decide +kernel, by decide +kernel⟩
set_option maxRecDepth 20000 in
theorem k_Mod_refuse {l : Launch} {X : zX} (hl : l.stackTraces = false) {h : zH} {v1 : Int32} : zGl l m_Mod_refuse X 0 0 (f_Mod_refuse h v1) (0, [some (zr (some (11, 333))), some (zi v1)], [], h) (fun x => .inr ((fun a => (.inl (some (zi a.1)), a.2) : Int32 × zH → zF) x)) := by
  unfold f_Mod_refuse
  refine zG_run t_Mod [(.aload_n 0, 0, 0), (.getfield 77, 11, 15), (.iload_n 1, 0, 0), (.dup2, 0, 0)] (6, [some (zr (some (11, 333))), some (zi v1)], [zi v1, zr (some (74, 348)), zi v1, zr (some (74, 348))], h) (by decide +kernel) rfl ?_
  refine zG_ald (v := zi (h.1 348 v1.toNatClampNeg)) (n := 3) rfl (by decide +kernel) rfl rfl fun hb1 => ?_
  refine zG_run t_Mod [(.iconst 1, 0, 0), (.iadd, 0, 0)] (9, [some (zr (some (11, 333))), some (zi v1)], [zi ((h.1 348 v1.toNatClampNeg) + 1), zi v1, zr (some (74, 348))], h) (by decide +kernel) rfl ?_
  refine zG_guard fun hb3 => ?_
  refine zG_bind (fun y => (10, [some (zr (some (11, 333))), some (zi v1)], [], y)) (zG_astc (h' := zsI h 348 v1.toNatClampNeg ((h.1 348 v1.toNatClampNeg) + 1)) rfl (by decide +kernel) hb3 rfl (zG_end (L' := [some (zr (some (11, 333))), some (zi v1)]) rfl (And.intro rfl (And.intro rfl trivial)))) fun h2 => ?_
  refine zG_run t_Mod [(.iconst (-1), 0, 0)] (11, [some (zr (some (11, 333))), some (zi v1)], [zi (-1)], h2) (by decide +kernel) rfl ?_
  exact zG_ret (r := some (zi (-1))) rfl (zrd_i rfl (by decide +kernel))
theorem c_Mod_refuse {l : Launch} {X : zX} (hl : l.stackTraces = false) {h : zH} {v1 : Int32} {x : Int32 × zH} (hx : f_Mod_refuse h v1 = some x) : zCt l (true, 2) 2 m_Mod_refuse X 0 0 [zr (some (11, 333)), zi v1] h ((fun a => (.inl (some (zi a.1)), a.2) : Int32 × zH → zF) x) :=
  zG_ct (R := fun a => (.inl (some (zi a.1)), a.2)) (x := x) ok_Mod_refuse hl (Nat.le_of_ble_eq_true rfl) hx (k_Mod_refuse hl)
def m_Mod_keep : zM := (({ cls := "ScanPackerModel", name := "keep", desc := "()V" } : Jvm.MethodName), prog_13_method_81_code, 2, (Option.none : Option Jvm.ClassFile.FieldType), [], 1)
theorem ok_Mod_keep : zMok m_Mod_keep := ⟨by decide +kernel, zW_of 1942 (by decide +kernel) (by decide +kernel), zW_of 134 (by decide +kernel) (by decide +kernel), by decide, by decide +kernel, by decide +kernel⟩
set_option maxRecDepth 20000 in
theorem k_Mod_keep_b54 {l : Launch} {X : zX} (hl : l.stackTraces = false) {h : zH} {v1 : Int32} : zGl l m_Mod_keep X 0 0 (f_Mod_keep_b54 h v1) (54, [some (zr (some (11, 333))), some (zi v1)], [], h) (Sum.elim (fun s : Int32 × zH => .inl (54, [some (zr (some (11, 333))), some (zi s.1)], [], s.2)) (fun y : zH => .inl (86, [some (zr (some (11, 333))), none], [], y))) := by
  unfold f_Mod_keep_b54
  refine zG_run t_Mod [(.iload_n 1, 0, 0), (.bipush 57, 0, 0)] (57, [some (zr (some (11, 333))), some (zi v1)], [zi 57, zi v1], h) (by decide +kernel) rfl ?_
  refine zG_icmp (op := .ge) (off := 29) (tgt := 86) (by decide +kernel) rfl Iff.rfl (fun c4 => ?_) (fun c4 => ?_)
  · exact zG_end (L' := [some (zr (some (11, 333))), none]) rfl (And.intro rfl trivial)
  · refine zG_run t_Mod [(.aload_n 0, 0, 0), (.getfield 139, 11, 46), (.bipush 57, 0, 0), (.aload_n 0, 0, 0), (.getfield 301, 11, 45), (.imul, 0, 0), (.iload_n 1, 0, 0), (.iadd, 0, 0), (.aload_n 0, 0, 0), (.getfield 74, 11, 14), (.iload_n 1, 0, 0)] (78, [some (zr (some (11, 333))), some (zi v1)], [zi v1, zr (some (73, 347)), zi ((57 * (h.1 333 45)) + v1), zr (some (93, 367))], h) (by decide +kernel) rfl ?_
    refine zG_ald (v := zi (h.1 347 v1.toNatClampNeg)) (n := 57) rfl (by decide +kernel) rfl rfl fun hb1 => ?_
    refine zG_guard fun hb3 => ?_
    refine zG_bind (fun y => (80, [some (zr (some (11, 333))), some (zi v1)], [], y)) (zG_astc (h' := zsI h 367 ((57 * (h.1 333 45)) + v1).toNatClampNeg (h.1 347 v1.toNatClampNeg)) rfl (by decide +kernel) hb3 rfl (zG_end (L' := [some (zr (some (11, 333))), some (zi v1)]) rfl (And.intro rfl (And.intro rfl trivial)))) fun h2 => ?_
    refine zG_run t_Mod [(.iinc 1 1, 0, 0), (.goto (-29), 0, 0)] (54, [some (zr (some (11, 333))), some (zi (v1 + 1))], [], h2) (by decide +kernel) rfl ?_
    exact zG_end (L' := [some (zr (some (11, 333))), some (zi (v1 + 1))]) rfl (And.intro rfl (And.intro rfl trivial))
set_option maxRecDepth 20000 in
theorem k_Mod_keep_j52 {l : Launch} {X : zX} (hl : l.stackTraces = false) {h : zH} : zGl l m_Mod_keep X 0 0 (f_Mod_keep_j52 h) (52, [some (zr (some (11, 333))), none], [], h) (fun x => .inr ((fun a => (.inl none, a) : zH → zF) x)) := by
  unfold f_Mod_keep_j52
  refine zG_run t_Mod [(.iconst 0, 0, 0), (.istore_n 1, 0, 0)] (54, [some (zr (some (11, 333))), some (zi 0)], [], h) (by decide +kernel) rfl ?_
  refine zG_forget (L' := [some (zr (some (11, 333))), some (zi 0)]) (And.intro rfl (And.intro rfl trivial)) ?_
  refine zG_bind (fun y : zH => (86, [some (zr (some (11, 333))), none], [], y)) (zG_iter (fun s : Int32 × zH => (54, [some (zr (some (11, 333))), some (zi s.1)], [], s.2)) fun s => k_Mod_keep_b54 hl) (fun y6 => ?_)
  refine zG_bind (fun y => (96, [some (zr (some (11, 333))), none], [], y)) (zG_run t_Mod [(.aload_n 0, 0, 0), (.dup, 0, 0), (.getfield 301, 11, 45), (.iconst 1, 0, 0), (.iadd, 0, 0), (.putfield 301, 11, 45)] (96, [some (zr (some (11, 333))), none], [], zsI y6 333 45 ((y6.1 333 45) + 1)) (by decide +kernel) rfl (zG_end (L' := [some (zr (some (11, 333))), none]) rfl (And.intro rfl trivial))) fun h7 => ?_
  exact zG_ret (r := none) rfl (zrd_v rfl (by decide +kernel))
set_option maxRecDepth 20000 in
theorem k_Mod_keep_b12 {l : Launch} {X : zX} (hl : l.stackTraces = false) {h : zH} {v1 : Int32} : zGl l m_Mod_keep X 0 0 (f_Mod_keep_b12 h v1) (12, [some (zr (some (11, 333))), some (zi v1)], [], h) (Sum.elim (fun s : Int32 × zH => .inl (12, [some (zr (some (11, 333))), some (zi s.1)], [], s.2)) (fun y : zH => .inl (42, [some (zr (some (11, 333))), none], [], y))) := by
  unfold f_Mod_keep_b12
  refine zG_run t_Mod [(.iload_n 1, 0, 0), (.aload_n 0, 0, 0), (.getfield 139, 11, 46)] (17, [some (zr (some (11, 333))), some (zi v1)], [zr (some (93, 367)), zi v1], h) (by decide +kernel) rfl ?_
  refine zG_alen (v := 2280) rfl (by decide +kernel) rfl ?_
  refine zG_icmp (op := .ge) (off := 24) (tgt := 42) (by decide +kernel) rfl Iff.rfl (fun c11 => ?_) (fun c11 => ?_)
  · exact zG_end (L' := [some (zr (some (11, 333))), none]) rfl (And.intro rfl trivial)
  · refine zG_run t_Mod [(.aload_n 0, 0, 0), (.getfield 139, 11, 46), (.iload_n 1, 0, 0), (.bipush 57, 0, 0), (.isub, 0, 0), (.aload_n 0, 0, 0), (.getfield 139, 11, 46), (.iload_n 1, 0, 0)] (34, [some (zr (some (11, 333))), some (zi v1)], [zi v1, zr (some (93, 367)), zi (v1 - 57), zr (some (93, 367))], h) (by decide +kernel) rfl ?_
    refine zG_ald (v := zi (h.1 367 v1.toNatClampNeg)) (n := 2280) rfl (by decide +kernel) rfl rfl fun hb8 => ?_
    refine zG_guard fun hb10 => ?_
    refine zG_bind (fun y => (36, [some (zr (some (11, 333))), some (zi v1)], [], y)) (zG_astc (h' := zsI h 367 (v1 - 57).toNatClampNeg (h.1 367 v1.toNatClampNeg)) rfl (by decide +kernel) hb10 rfl (zG_end (L' := [some (zr (some (11, 333))), some (zi v1)]) rfl (And.intro rfl (And.intro rfl trivial)))) fun h9 => ?_
    refine zG_run t_Mod [(.iinc 1 1, 0, 0), (.goto (-27), 0, 0)] (12, [some (zr (some (11, 333))), some (zi (v1 + 1))], [], h9) (by decide +kernel) rfl ?_
    exact zG_end (L' := [some (zr (some (11, 333))), some (zi (v1 + 1))]) rfl (And.intro rfl (And.intro rfl trivial))
set_option maxRecDepth 20000 in
theorem k_Mod_keep {l : Launch} {X : zX} (hl : l.stackTraces = false) {h : zH} : zGl l m_Mod_keep X 0 0 (f_Mod_keep h) (0, [some (zr (some (11, 333))), none], [], h) (fun x => .inr ((fun a => (.inl none, a) : zH → zF) x)) := by
  unfold f_Mod_keep
  refine zG_run t_Mod [(.aload_n 0, 0, 0), (.getfield 301, 11, 45), (.bipush 40, 0, 0)] (6, [some (zr (some (11, 333))), none], [zi 40, zi (h.1 333 45)], h) (by decide +kernel) rfl ?_
  refine zG_icmp (op := .ne) (off := 46) (tgt := 52) (by decide +kernel) rfl Iff.rfl (fun c15 => ?_) (fun c15 => ?_)
  · exact zG_forget (L' := [some (zr (some (11, 333))), none]) (And.intro rfl trivial) (k_Mod_keep_j52 hl)
  · refine zG_run t_Mod [(.bipush 57, 0, 0), (.istore_n 1, 0, 0)] (12, [some (zr (some (11, 333))), some (zi 57)], [], h) (by decide +kernel) rfl ?_
    refine zG_forget (L' := [some (zr (some (11, 333))), some (zi 57)]) (And.intro rfl (And.intro rfl trivial)) ?_
    refine zG_bind (fun y : zH => (42, [some (zr (some (11, 333))), none], [], y)) (zG_iter (fun s : Int32 × zH => (12, [some (zr (some (11, 333))), some (zi s.1)], [], s.2)) fun s => k_Mod_keep_b12 hl) (fun y13 => ?_)
    refine zG_bind (fun y => (52, [some (zr (some (11, 333))), none], [], y)) (zG_run t_Mod [(.aload_n 0, 0, 0), (.dup, 0, 0), (.getfield 301, 11, 45), (.iconst 1, 0, 0), (.isub, 0, 0), (.putfield 301, 11, 45)] (52, [some (zr (some (11, 333))), none], [], zsI y13 333 45 ((y13.1 333 45) - 1)) (by decide +kernel) rfl (zG_end (L' := [some (zr (some (11, 333))), none]) rfl (And.intro rfl trivial))) fun h14 => ?_
    exact zG_forget (L' := [some (zr (some (11, 333))), none]) (And.intro rfl trivial) (k_Mod_keep_j52 hl)
theorem c_Mod_keep {l : Launch} {X : zX} (hl : l.stackTraces = false) {h : zH} {x : zH} (hx : f_Mod_keep h = some x) : zCt l (true, 2) 2 m_Mod_keep X 0 0 [zr (some (11, 333))] h ((fun a => (.inl none, a) : zH → zF) x) :=
  zG_ct (R := fun a => (.inl none, a)) (x := x) ok_Mod_keep hl (Nat.le_of_ble_eq_true rfl) hx (k_Mod_keep hl)
def m_Mod_bitOf : zM := (({ cls := "ScanPackerModel", name := "bitOf", desc := "(I)I" } : Jvm.MethodName), prog_13_method_82_code, 2, (Option.some Jvm.ClassFile.FieldType.int), [], 1)
theorem ok_Mod_bitOf : zMok m_Mod_bitOf := ⟨by decide +kernel, zW_of 1946 (by decide +kernel) (by decide +kernel), zW_of 134 (by decide +kernel) (by decide +kernel), by decide, by decide +kernel, by decide +kernel⟩
set_option maxRecDepth 20000 in
theorem k_Mod_bitOf {l : Launch} {X : zX} (hl : l.stackTraces = false) {h : zH} {v1 : Int32} : zGl l m_Mod_bitOf X 0 0 (f_Mod_bitOf h v1) (0, [some (zr (some (11, 333))), some (zi v1)], [], h) (fun x => .inr ((fun a => (.inl (some (zi a)), h) : Int32 → zF) x)) := by
  unfold f_Mod_bitOf
  refine zG_run t_Mod [(.aload_n 0, 0, 0), (.getfield 74, 11, 14), (.iconst 0, 0, 0)] (5, [some (zr (some (11, 333))), some (zi v1)], [zi 0, zr (some (73, 347))], h) (by decide +kernel) rfl ?_
  refine zG_aldc (v := zi (h.1 347 0)) rfl (by decide +kernel) (by decide +kernel) rfl ?_
  refine zG_run t_Mod [(.iload_n 1, 0, 0), (.ishr, 0, 0), (.iconst 1, 0, 0), (.iand, 0, 0)] (10, [some (zr (some (11, 333))), some (zi v1)], [zi ((zshr (h.1 347 0) v1) &&& 1)], h) (by decide +kernel) rfl ?_
  exact zG_ret (r := some (zi ((zshr (h.1 347 0) v1) &&& 1))) rfl (zrd_i rfl (by decide +kernel))
theorem c_Mod_bitOf {l : Launch} {X : zX} (hl : l.stackTraces = false) {h : zH} {v1 : Int32} {x : Int32} (hx : f_Mod_bitOf h v1 = some x) : zCt l (true, 2) 2 m_Mod_bitOf X 0 0 [zr (some (11, 333)), zi v1] h ((fun a => (.inl (some (zi a)), h) : Int32 → zF) x) :=
  zG_ct (R := fun a => (.inl (some (zi a)), h)) (x := x) ok_Mod_bitOf hl (Nat.le_of_ble_eq_true rfl) hx (k_Mod_bitOf hl)
def m_Mod_putBit : zM := (({ cls := "ScanPackerModel", name := "putBit", desc := "(II)V" } : Jvm.MethodName), prog_13_method_83_code, 3, (Option.none : Option Jvm.ClassFile.FieldType), [], 1)
theorem ok_Mod_putBit : zMok m_Mod_putBit := ⟨by decide +kernel, zW_of 1950 (by decide +kernel) (by decide +kernel), zW_of 134 (by decide +kernel) (by decide +kernel), by decide, by decide +kernel, by decide +kernel⟩
set_option maxRecDepth 20000 in
theorem k_Mod_putBit {l : Launch} {X : zX} (hl : l.stackTraces = false) {h : zH} {v1 : Int32} {v2 : Int32} : zGl l m_Mod_putBit X 0 0 (f_Mod_putBit h v1 v2) (0, [some (zr (some (11, 333))), some (zi v1), some (zi v2)], [], h) (fun x => .inr ((fun a => (.inl none, a) : zH → zF) x)) := by
  unfold f_Mod_putBit
  refine zG_run t_Mod [(.aload_n 0, 0, 0), (.getfield 74, 11, 14), (.iconst 0, 0, 0), (.aload_n 0, 0, 0), (.getfield 74, 11, 14), (.iconst 0, 0, 0)] (10, [some (zr (some (11, 333))), some (zi v1), some (zi v2)], [zi 0, zr (some (73, 347)), zi 0, zr (some (73, 347))], h) (by decide +kernel) rfl ?_
  refine zG_aldc (v := zi (h.1 347 0)) rfl (by decide +kernel) (by decide +kernel) rfl ?_
  refine zG_run t_Mod [(.iconst 1, 0, 0), (.iload_n 1, 0, 0), (.ishl, 0, 0), (.iconst (-1), 0, 0), (.ixor, 0, 0), (.iand, 0, 0), (.iload_n 2, 0, 0), (.iload_n 1, 0, 0), (.ishl, 0, 0), (.ior, 0, 0)] (21, [some (zr (some (11, 333))), some (zi v1), some (zi v2)], [zi (((h.1 347 0) &&& ((zshl 1 v1) ^^^ (-1))) ||| (zshl v2 v1)), zi 0, zr (some (73, 347))], h) (by decide +kernel) rfl ?_
  refine zG_bind (fun y => (22, [some (zr (some (11, 333))), some (zi v1), some (zi v2)], [], y)) (zG_astc (h' := zsI h 347 0 (((h.1 347 0) &&& ((zshl 1 v1) ^^^ (-1))) ||| (zshl v2 v1))) rfl (by decide +kernel) (by decide +kernel) rfl (zG_end (L' := [some (zr (some (11, 333))), some (zi v1), some (zi v2)]) rfl (And.intro rfl (And.intro rfl (And.intro rfl trivial))))) fun h1 => ?_
  exact zG_ret (r := none) rfl (zrd_v rfl (by decide +kernel))
theorem c_Mod_putBit {l : Launch} {X : zX} (hl : l.stackTraces = false) {h : zH} {v1 : Int32} {v2 : Int32} {x : zH} (hx : f_Mod_putBit h v1 v2 = some x) : zCt l (true, 2) 2 m_Mod_putBit X 0 0 [zr (some (11, 333)), zi v1, zi v2] h ((fun a => (.inl none, a) : zH → zF) x) :=
  zG_ct (R := fun a => (.inl none, a)) (x := x) ok_Mod_putBit hl (Nat.le_of_ble_eq_true rfl) hx (k_Mod_putBit hl)
def m_Mod_put : zM := (({ cls := "ScanPackerModel", name := "put", desc := "(II)I" } : Jvm.MethodName), prog_13_method_84_code, 4, (Option.some Jvm.ClassFile.FieldType.int), [], 2)
theorem ok_Mod_put : zMok m_Mod_put := ⟨by decide +kernel, zW_of 1934 (by decide +kernel) (by decide +kernel), zW_of 134 (by decide +kernel) (by decide +kernel), by decide, by decide +kernel, by decide +kernel⟩
set_option maxRecDepth 20000 in
theorem k_Mod_put_j40 {l : Launch} {X : zX} (hl : l.stackTraces = false) {h : zH} : zGl l m_Mod_put X 0 0 (f_Mod_put_j40 h) (40, [some (zr (some (11, 333))), none, none, none], [], h) (fun x => .inr ((fun a => (.inl (some (zi a.1)), a.2) : Int32 × zH → zF) x)) := by
  unfold f_Mod_put_j40
  refine zG_run t_Mod [(.aload_n 0, 0, 0), (.iconst 1, 0, 0)] (42, [some (zr (some (11, 333))), none, none, none], [zi 1, zr (some (11, 333))], h) (by decide +kernel) rfl ?_
  refine zG_callV (idx := 425) (R := (fun a => (some (zi a.1), a.2))) (as := [zi 1]) (rest := []) (n := 1) (fun a ha => c_Mod_refuse hl ha) (by decide +kernel) ⟨ok_Mod_refuse, by decide, by decide +kernel⟩ rfl w_555 w_556 w_557 (by decide) rfl rfl rfl (Nat.le_of_ble_eq_true rfl) fun x3 => ?_
  exact zG_ret (r := some (zi x3.1)) rfl (zrd_i rfl (by decide +kernel))
set_option maxRecDepth 20000 in
theorem k_Mod_put {l : Launch} {X : zX} (hl : l.stackTraces = false) {h : zH} {v1 : Int32} {v2 : Int32} : zGl l m_Mod_put X 0 0 (f_Mod_put h v1 v2) (0, [some (zr (some (11, 333))), some (zi v1), some (zi v2), none], [], h) (fun x => .inr ((fun a => (.inl (some (zi a.1)), a.2) : Int32 × zH → zF) x)) := by
  unfold f_Mod_put
  refine zG_bind (fun y => (5, [some (zr (some (11, 333))), some (zi v1), some (zi v2), none], [], y)) (zG_run t_Mod [(.aload_n 0, 0, 0), (.iconst 0, 0, 0), (.putfield 181, 11, 2)] (5, [some (zr (some (11, 333))), some (zi v1), some (zi v2), none], [], zsI h 333 2 0) (by decide +kernel) rfl (zG_end (L' := [some (zr (some (11, 333))), some (zi v1), some (zi v2), none]) rfl (And.intro rfl (And.intro rfl (And.intro rfl trivial))))) fun h1 => ?_
  refine zG_run t_Mod [(.iload_n 1, 0, 0), (.iconst 0, 0, 0), (.aload_n 0, 0, 0), (.getfield 40, 11, 3), (.iconst 0, 0, 0)] (12, [some (zr (some (11, 333))), some (zi v1), some (zi v2), none], [zi 0, zr (some (62, 336)), zi 0, zi v1], h1) (by decide +kernel) rfl ?_
  refine zG_aldc (v := zi (h1.1 336 0)) rfl (by decide +kernel) (by decide +kernel) rfl ?_
  refine zG_run t_Mod [(.iconst 1, 0, 0), (.isub, 0, 0)] (15, [some (zr (some (11, 333))), some (zi v1), some (zi v2), none], [zi ((h1.1 336 0) - 1), zi 0, zi v1], h1) (by decide +kernel) rfl ?_
  refine zG_callS (idx := 391) (R := (fun a => (some (zi a), h1))) (as := [zi v1, zi 0, zi ((h1.1 336 0) - 1)]) (rest := []) (n := 3) (fun a ha => c_Mod_isIn hl ha) (by decide +kernel) ⟨ok_Mod_isIn, by decide, by decide +kernel⟩ rfl w_526 w_527 rfl rfl (Nat.le_of_ble_eq_true rfl) fun x2 => ?_
  refine zG_if (op := .eq) (off := 22) (tgt := 40) (by decide +kernel) rfl Iff.rfl (fun c11 => ?_) (fun c11 => ?_)
  · exact zG_forget (L' := [some (zr (some (11, 333))), none, none, none]) (And.intro rfl trivial) (k_Mod_put_j40 hl)
  · refine zG_run t_Mod [(.aload_n 0, 0, 0), (.getfield 56, 11, 8), (.iload_n 1, 0, 0)] (26, [some (zr (some (11, 333))), some (zi v1), some (zi v2), none], [zi v1, zr (some (67, 341))], h1) (by decide +kernel) rfl ?_
    refine zG_ald (v := zi (h1.1 341 v1.toNatClampNeg)) (n := 12) rfl (by decide +kernel) rfl rfl fun hb4 => ?_
    refine zG_run t_Mod [(.iconst (-1), 0, 0)] (28, [some (zr (some (11, 333))), some (zi v1), some (zi v2), none], [zi (-1), zi (h1.1 341 v1.toNatClampNeg)], h1) (by decide +kernel) rfl ?_
    refine zG_icmp (op := .ne) (off := 12) (tgt := 40) (by decide +kernel) rfl Iff.rfl (fun c10 => ?_) (fun c10 => ?_)
    · exact zG_forget (L' := [some (zr (some (11, 333))), none, none, none]) (And.intro rfl trivial) (k_Mod_put_j40 hl)
    · refine zG_run t_Mod [(.iload_n 2, 0, 0), (.iconst 0, 0, 0), (.iconst 1, 0, 0)] (34, [some (zr (some (11, 333))), some (zi v1), some (zi v2), none], [zi 1, zi 0, zi v2], h1) (by decide +kernel) rfl ?_
      refine zG_callS (idx := 391) (R := (fun a => (some (zi a), h1))) (as := [zi v2, zi 0, zi 1]) (rest := []) (n := 3) (fun a ha => c_Mod_isIn hl ha) (by decide +kernel) ⟨ok_Mod_isIn, by decide, by decide +kernel⟩ rfl w_526 w_527 rfl rfl (Nat.le_of_ble_eq_true rfl) fun x5 => ?_
      refine zG_if (op := .ne) (off := 9) (tgt := 46) (by decide +kernel) rfl Iff.rfl (fun c9 => ?_) (fun c9 => ?_)
      · refine zG_run t_Mod [(.aload_n 0, 0, 0)] (47, [some (zr (some (11, 333))), some (zi v1), some (zi v2), none], [zr (some (11, 333))], h1) (by decide +kernel) rfl ?_
        refine zG_callV (idx := 428) (R := (fun a => (none, a))) (as := []) (rest := []) (n := 0) (fun a ha => c_Mod_keep hl ha) (by decide +kernel) ⟨ok_Mod_keep, by decide, by decide +kernel⟩ rfl w_558 w_559 w_560 (by decide) rfl rfl rfl (Nat.le_of_ble_eq_true rfl) fun x6 => ?_
        refine zG_run t_Mod [(.aload_n 0, 0, 0), (.iload_n 1, 0, 0)] (52, [some (zr (some (11, 333))), some (zi v1), some (zi v2), none], [zi v1, zr (some (11, 333))], x6) (by decide +kernel) rfl ?_
        refine zG_callV (idx := 431) (R := (fun a => (some (zi a), x6))) (as := [zi v1]) (rest := []) (n := 1) (fun a ha => c_Mod_bitOf hl ha) (by decide +kernel) ⟨ok_Mod_bitOf, by decide, by decide +kernel⟩ rfl w_561 w_562 w_563 (by decide) rfl rfl rfl (Nat.le_of_ble_eq_true rfl) fun x7 => ?_
        refine zG_run t_Mod [(.istore_n 3, 0, 0), (.aload_n 0, 0, 0), (.iload_n 1, 0, 0), (.iload_n 2, 0, 0)] (59, [some (zr (some (11, 333))), some (zi v1), some (zi v2), some (zi x7)], [zi v2, zi v1, zr (some (11, 333))], x6) (by decide +kernel) rfl ?_
        refine zG_callV (idx := 434) (R := (fun a => (none, a))) (as := [zi v1, zi v2]) (rest := []) (n := 2) (fun a ha => c_Mod_putBit hl ha) (by decide +kernel) ⟨ok_Mod_putBit, by decide, by decide +kernel⟩ rfl w_564 w_565 w_566 (by decide) rfl rfl rfl (Nat.le_of_ble_eq_true rfl) fun x8 => ?_
        refine zG_run t_Mod [(.iload_n 3, 0, 0)] (63, [some (zr (some (11, 333))), some (zi v1), some (zi v2), some (zi x7)], [zi x7], x8) (by decide +kernel) rfl ?_
        exact zG_ret (r := some (zi x7)) rfl (zrd_i rfl (by decide +kernel))
      · exact zG_forget (L' := [some (zr (some (11, 333))), none, none, none]) (And.intro rfl trivial) (k_Mod_put_j40 hl)
theorem c_Mod_put {l : Launch} {X : zX} (hl : l.stackTraces = false) {h : zH} {v1 : Int32} {v2 : Int32} {x : Int32 × zH} (hx : f_Mod_put h v1 v2 = some x) : zCt l (true, 2) 2 m_Mod_put X 0 0 [zr (some (11, 333)), zi v1, zi v2] h ((fun a => (.inl (some (zi a.1)), a.2) : Int32 × zH → zF) x) :=
  zG_ct (R := fun a => (.inl (some (zi a.1)), a.2)) (x := x) ok_Mod_put hl (Nat.le_of_ble_eq_true rfl) hx (k_Mod_put hl)
def m_Mod_shiftNow : zM := (({ cls := "ScanPackerModel", name := "shiftNow", desc := "(I)I" } : Jvm.MethodName), prog_13_method_85_code, 5, (Option.some Jvm.ClassFile.FieldType.int), [], 2)
theorem ok_Mod_shiftNow : zMok m_Mod_shiftNow := ⟨by decide +kernel, zW_of 1958 (by decide +kernel) (by decide +kernel), zW_of 134 (by decide +kernel) (by decide +kernel), by decide, by decide +kernel, by decide +kernel⟩
set_option maxRecDepth 20000 in
theorem k_Mod_shiftNow_b46 {l : Launch} {X : zX} (hl : l.stackTraces = false) {h : zH} {v1 : Int32} {v2 : Int32} {v3 : Int32} {v4 : Int32} : zGl l m_Mod_shiftNow X 0 0 (f_Mod_shiftNow_b46 h v1 v2 v3 v4) (46, [some (zr (some (11, 333))), some (zi v1), some (zi v2), some (zi v3), some (zi v4)], [], h) (Sum.elim (fun s : Int32 × zH => .inl (46, [some (zr (some (11, 333))), some (zi v1), some (zi v2), some (zi v3), some (zi s.1)], [], s.2)) (fun y : zH => .inl (81, [some (zr (some (11, 333))), some (zi v1), some (zi v2), some (zi v3), none], [], y))) := by
  unfold f_Mod_shiftNow_b46
  refine zG_run t_Mod [(.iload 4, 0, 0)] (48, [some (zr (some (11, 333))), some (zi v1), some (zi v2), some (zi v3), some (zi v4)], [zi v4], h) (by decide +kernel) rfl ?_
  refine zG_if (op := .le) (off := 33) (tgt := 81) (by decide +kernel) rfl Iff.rfl (fun c9 => ?_) (fun c9 => ?_)
  · exact zG_end (L' := [some (zr (some (11, 333))), some (zi v1), some (zi v2), some (zi v3), none]) rfl (And.intro rfl (And.intro rfl (And.intro rfl (And.intro rfl trivial))))
  · refine zG_run t_Mod [(.aload_n 0, 0, 0), (.aload_n 0, 0, 0), (.iload_n 3, 0, 0), (.iload 4, 0, 0)] (56, [some (zr (some (11, 333))), some (zi v1), some (zi v2), some (zi v3), some (zi v4)], [zi v4, zi v3, zr (some (11, 333)), zr (some (11, 333))], h) (by decide +kernel) rfl ?_
    refine zG_callV (idx := 358) (R := (fun a => (some (zi a), h))) (as := [zi v3, zi v4]) (rest := [zr (some (11, 333))]) (n := 2) (fun a ha => c_Mod_cellAt hl ha) (by decide +kernel) ⟨ok_Mod_cellAt, by decide, by decide +kernel⟩ rfl w_517 w_518 w_519 (by decide) rfl rfl rfl (Nat.le_of_ble_eq_true rfl) fun x5 => ?_
    refine zG_run t_Mod [(.aload_n 0, 0, 0), (.aload_n 0, 0, 0), (.iload_n 3, 0, 0), (.iload 4, 0, 0), (.iconst 1, 0, 0), (.isub, 0, 0)] (66, [some (zr (some (11, 333))), some (zi v1), some (zi v2), some (zi v3), some (zi v4)], [zi (v4 - 1), zi v3, zr (some (11, 333)), zr (some (11, 333)), zi x5, zr (some (11, 333))], h) (by decide +kernel) rfl ?_
    refine zG_callV (idx := 358) (R := (fun a => (some (zi a), h))) (as := [zi v3, zi (v4 - 1)]) (rest := [zr (some (11, 333)), zi x5, zr (some (11, 333))]) (n := 2) (fun a ha => c_Mod_cellAt hl ha) (by decide +kernel) ⟨ok_Mod_cellAt, by decide, by decide +kernel⟩ rfl w_517 w_518 w_519 (by decide) rfl rfl rfl (Nat.le_of_ble_eq_true rfl) fun x6 => ?_
    refine zG_callV (idx := 431) (R := (fun a => (some (zi a), h))) (as := [zi x6]) (rest := [zi x5, zr (some (11, 333))]) (n := 1) (fun a ha => c_Mod_bitOf hl ha) (by decide +kernel) ⟨ok_Mod_bitOf, by decide, by decide +kernel⟩ rfl w_561 w_562 w_563 (by decide) rfl rfl rfl (Nat.le_of_ble_eq_true rfl) fun x7 => ?_
    refine zG_callV (idx := 434) (R := (fun a => (none, a))) (as := [zi x5, zi x7]) (rest := []) (n := 2) (fun a ha => c_Mod_putBit hl ha) (by decide +kernel) ⟨ok_Mod_putBit, by decide, by decide +kernel⟩ rfl w_564 w_565 w_566 (by decide) rfl rfl rfl (Nat.le_of_ble_eq_true rfl) fun x8 => ?_
    refine zG_run t_Mod [(.iinc 4 (-1), 0, 0), (.goto (-32), 0, 0)] (46, [some (zr (some (11, 333))), some (zi v1), some (zi v2), some (zi v3), some (zi (v4 + (-1)))], [], x8) (by decide +kernel) rfl ?_
    exact zG_end (L' := [some (zr (some (11, 333))), some (zi v1), some (zi v2), some (zi v3), some (zi (v4 + (-1)))]) rfl (And.intro rfl (And.intro rfl (And.intro rfl (And.intro rfl (And.intro rfl trivial)))))
set_option maxRecDepth 20000 in
theorem k_Mod_shiftNow_b4 {l : Launch} {X : zX} (hl : l.stackTraces = false) {h : zH} {v1 : Int32} {v2 : Int32} {v3 : Int32} : zGl l m_Mod_shiftNow X 0 0 (f_Mod_shiftNow_b4 h v1 v2 v3) (4, [some (zr (some (11, 333))), some (zi v1), some (zi v2), some (zi v3), none], [], h) (Sum.elim (fun s : Int32 × Int32 × zH => .inl (4, [some (zr (some (11, 333))), some (zi v1), some (zi s.1), some (zi s.2.1), none], [], s.2.2)) (fun y : Int32 × zH => .inl (102, [some (zr (some (11, 333))), none, some (zi y.1), none, none], [], y.2))) := by
  unfold f_Mod_shiftNow_b4
  refine zG_run t_Mod [(.iload_n 3, 0, 0), (.aload_n 0, 0, 0), (.getfield 40, 11, 3), (.iconst 2, 0, 0)] (10, [some (zr (some (11, 333))), some (zi v1), some (zi v2), some (zi v3), none], [zi 2, zr (some (62, 336)), zi v3], h) (by decide +kernel) rfl ?_
  refine zG_aldc (v := zi (h.1 336 2)) rfl (by decide +kernel) (by decide +kernel) rfl ?_
  refine zG_icmp (op := .ge) (off := 91) (tgt := 102) (by decide +kernel) rfl Iff.rfl (fun c14 => ?_) (fun c14 => ?_)
  · exact zG_end (L' := [some (zr (some (11, 333))), none, some (zi v2), none, none]) rfl (And.intro rfl (And.intro rfl trivial))
  · refine zG_run t_Mod [(.iload_n 2, 0, 0), (.aload_n 0, 0, 0), (.aload_n 0, 0, 0), (.iload_n 3, 0, 0), (.aload_n 0, 0, 0), (.getfield 62, 11, 10), (.iload_n 3, 0, 0)] (23, [some (zr (some (11, 333))), some (zi v1), some (zi v2), some (zi v3), none], [zi v3, zr (some (69, 343)), zi v3, zr (some (11, 333)), zr (some (11, 333)), zi v2], h) (by decide +kernel) rfl ?_
    refine zG_ald (v := zi (h.1 343 v3.toNatClampNeg)) (n := 6) rfl (by decide +kernel) rfl rfl fun hb1 => ?_
    refine zG_run t_Mod [(.iconst 1, 0, 0), (.isub, 0, 0)] (26, [some (zr (some (11, 333))), some (zi v1), some (zi v2), some (zi v3), none], [zi ((h.1 343 v3.toNatClampNeg) - 1), zi v3, zr (some (11, 333)), zr (some (11, 333)), zi v2], h) (by decide +kernel) rfl ?_
    refine zG_callV (idx := 358) (R := (fun a => (some (zi a), h))) (as := [zi v3, zi ((h.1 343 v3.toNatClampNeg) - 1)]) (rest := [zr (some (11, 333)), zi v2]) (n := 2) (fun a ha => c_Mod_cellAt hl ha) (by decide +kernel) ⟨ok_Mod_cellAt, by decide, by decide +kernel⟩ rfl w_517 w_518 w_519 (by decide) rfl rfl rfl (Nat.le_of_ble_eq_true rfl) fun x2 => ?_
    refine zG_callV (idx := 431) (R := (fun a => (some (zi a), h))) (as := [zi x2]) (rest := [zi v2]) (n := 1) (fun a ha => c_Mod_bitOf hl ha) (by decide +kernel) ⟨ok_Mod_bitOf, by decide, by decide +kernel⟩ rfl w_561 w_562 w_563 (by decide) rfl rfl rfl (Nat.le_of_ble_eq_true rfl) fun x3 => ?_
    refine zG_run t_Mod [(.iload_n 3, 0, 0), (.ishl, 0, 0), (.ior, 0, 0), (.istore_n 2, 0, 0), (.aload_n 0, 0, 0), (.getfield 62, 11, 10), (.iload_n 3, 0, 0)] (41, [some (zr (some (11, 333))), some (zi v1), some (zi (v2 ||| (zshl x3 v3))), some (zi v3), none], [zi v3, zr (some (69, 343))], h) (by decide +kernel) rfl ?_
    refine zG_ald (v := zi (h.1 343 v3.toNatClampNeg)) (n := 6) rfl (by decide +kernel) rfl rfl fun hb4 => ?_
    refine zG_run t_Mod [(.iconst 1, 0, 0), (.isub, 0, 0), (.istore 4, 0, 0)] (46, [some (zr (some (11, 333))), some (zi v1), some (zi (v2 ||| (zshl x3 v3))), some (zi v3), some (zi ((h.1 343 v3.toNatClampNeg) - 1))], [], h) (by decide +kernel) rfl ?_
    refine zG_forget (L' := [some (zr (some (11, 333))), some (zi v1), some (zi (v2 ||| (zshl x3 v3))), some (zi v3), some (zi ((h.1 343 v3.toNatClampNeg) - 1))]) (And.intro rfl (And.intro rfl (And.intro rfl (And.intro rfl (And.intro rfl trivial))))) ?_
    refine zG_bind (fun y : zH => (81, [some (zr (some (11, 333))), some (zi v1), some (zi (v2 ||| (zshl x3 v3))), some (zi v3), none], [], y)) (zG_iter (fun s : Int32 × zH => (46, [some (zr (some (11, 333))), some (zi v1), some (zi (v2 ||| (zshl x3 v3))), some (zi v3), some (zi s.1)], [], s.2)) fun s => k_Mod_shiftNow_b46 hl) (fun y11 => ?_)
    refine zG_run t_Mod [(.aload_n 0, 0, 0), (.aload_n 0, 0, 0), (.iload_n 3, 0, 0), (.iconst 0, 0, 0)] (85, [some (zr (some (11, 333))), some (zi v1), some (zi (v2 ||| (zshl x3 v3))), some (zi v3), none], [zi 0, zi v3, zr (some (11, 333)), zr (some (11, 333))], y11) (by decide +kernel) rfl ?_
    refine zG_callV (idx := 358) (R := (fun a => (some (zi a), y11))) (as := [zi v3, zi 0]) (rest := [zr (some (11, 333))]) (n := 2) (fun a ha => c_Mod_cellAt hl ha) (by decide +kernel) ⟨ok_Mod_cellAt, by decide, by decide +kernel⟩ rfl w_517 w_518 w_519 (by decide) rfl rfl rfl (Nat.le_of_ble_eq_true rfl) fun x12 => ?_
    refine zG_run t_Mod [(.iload_n 1, 0, 0), (.iload_n 3, 0, 0), (.ishr, 0, 0), (.iconst 1, 0, 0), (.iand, 0, 0)] (93, [some (zr (some (11, 333))), some (zi v1), some (zi (v2 ||| (zshl x3 v3))), some (zi v3), none], [zi ((zshr v1 v3) &&& 1), zi x12, zr (some (11, 333))], y11) (by decide +kernel) rfl ?_
    refine zG_callV (idx := 434) (R := (fun a => (none, a))) (as := [zi x12, zi ((zshr v1 v3) &&& 1)]) (rest := []) (n := 2) (fun a ha => c_Mod_putBit hl ha) (by decide +kernel) ⟨ok_Mod_putBit, by decide, by decide +kernel⟩ rfl w_564 w_565 w_566 (by decide) rfl rfl rfl (Nat.le_of_ble_eq_true rfl) fun x13 => ?_
    refine zG_run t_Mod [(.iinc 3 1, 0, 0), (.goto (-95), 0, 0)] (4, [some (zr (some (11, 333))), some (zi v1), some (zi (v2 ||| (zshl x3 v3))), some (zi (v3 + 1)), none], [], x13) (by decide +kernel) rfl ?_
    exact zG_end (L' := [some (zr (some (11, 333))), some (zi v1), some (zi (v2 ||| (zshl x3 v3))), some (zi (v3 + 1)), none]) rfl (And.intro rfl (And.intro rfl (And.intro rfl (And.intro rfl trivial))))
set_option maxRecDepth 20000 in
theorem k_Mod_shiftNow {l : Launch} {X : zX} (hl : l.stackTraces = false) {h : zH} {v1 : Int32} : zGl l m_Mod_shiftNow X 0 0 (f_Mod_shiftNow h v1) (0, [some (zr (some (11, 333))), some (zi v1), none, none, none], [], h) (fun x => .inr ((fun a => (.inl (some (zi a.1)), a.2) : Int32 × zH → zF) x)) := by
  unfold f_Mod_shiftNow
  refine zG_run t_Mod [(.iconst 0, 0, 0), (.istore_n 2, 0, 0), (.iconst 0, 0, 0), (.istore_n 3, 0, 0)] (4, [some (zr (some (11, 333))), some (zi v1), some (zi 0), some (zi 0), none], [], h) (by decide +kernel) rfl ?_
  refine zG_forget (L' := [some (zr (some (11, 333))), some (zi v1), some (zi 0), some (zi 0), none]) (And.intro rfl (And.intro rfl (And.intro rfl (And.intro rfl trivial)))) ?_
  refine zG_bind (fun y : Int32 × zH => (102, [some (zr (some (11, 333))), none, some (zi y.1), none, none], [], y.2)) (zG_iter (fun s : Int32 × Int32 × zH => (4, [some (zr (some (11, 333))), some (zi v1), some (zi s.1), some (zi s.2.1), none], [], s.2.2)) fun s => k_Mod_shiftNow_b4 hl) (fun y16 => ?_)
  refine zG_run t_Mod [(.aload_n 0, 0, 0), (.getfield 74, 11, 14), (.iconst 1, 0, 0), (.dup2, 0, 0)] (108, [some (zr (some (11, 333))), none, some (zi y16.1), none, none], [zi 1, zr (some (73, 347)), zi 1, zr (some (73, 347))], y16.2) (by decide +kernel) rfl ?_
  refine zG_aldc (v := zi (y16.2.1 347 1)) rfl (by decide +kernel) (by decide +kernel) rfl ?_
  refine zG_run t_Mod [(.iconst 1, 0, 0), (.iadd, 0, 0)] (111, [some (zr (some (11, 333))), none, some (zi y16.1), none, none], [zi ((y16.2.1 347 1) + 1), zi 1, zr (some (73, 347))], y16.2) (by decide +kernel) rfl ?_
  refine zG_bind (fun y => (112, [some (zr (some (11, 333))), none, some (zi y16.1), none, none], [], y)) (zG_astc (h' := zsI y16.2 347 1 ((y16.2.1 347 1) + 1)) rfl (by decide +kernel) (by decide +kernel) rfl (zG_end (L' := [some (zr (some (11, 333))), none, some (zi y16.1), none, none]) rfl (And.intro rfl (And.intro rfl trivial)))) fun h17 => ?_
  refine zG_run t_Mod [(.iload_n 2, 0, 0)] (113, [some (zr (some (11, 333))), none, some (zi y16.1), none, none], [zi y16.1], h17) (by decide +kernel) rfl ?_
  exact zG_ret (r := some (zi y16.1)) rfl (zrd_i rfl (by decide +kernel))
theorem c_Mod_shiftNow {l : Launch} {X : zX} (hl : l.stackTraces = false) {h : zH} {v1 : Int32} {x : Int32 × zH} (hx : f_Mod_shiftNow h v1 = some x) : zCt l (true, 2) 2 m_Mod_shiftNow X 0 0 [zr (some (11, 333)), zi v1] h ((fun a => (.inl (some (zi a.1)), a.2) : Int32 × zH → zF) x) :=
  zG_ct (R := fun a => (.inl (some (zi a.1)), a.2)) (x := x) ok_Mod_shiftNow hl (Nat.le_of_ble_eq_true rfl) hx (k_Mod_shiftNow hl)
def m_Mod_shift : zM := (({ cls := "ScanPackerModel", name := "shift", desc := "(I)I" } : Jvm.MethodName), prog_13_method_86_code, 2, (Option.some Jvm.ClassFile.FieldType.int), [], 3)
theorem ok_Mod_shift : zMok m_Mod_shift := ⟨by decide +kernel, zW_of 1954 (by decide +kernel) (by decide +kernel), zW_of 134 (by decide +kernel) (by decide +kernel), by decide, by decide +kernel, by decide +kernel⟩
set_option maxRecDepth 20000 in
theorem k_Mod_shift_j24 {l : Launch} {X : zX} (hl : l.stackTraces = false) {h : zH} : zGl l m_Mod_shift X 0 0 (f_Mod_shift_j24 h) (24, [some (zr (some (11, 333))), none], [], h) (fun x => .inr ((fun a => (.inl (some (zi a.1)), a.2) : Int32 × zH → zF) x)) := by
  unfold f_Mod_shift_j24
  refine zG_run t_Mod [(.aload_n 0, 0, 0), (.iconst 1, 0, 0)] (26, [some (zr (some (11, 333))), none], [zi 1, zr (some (11, 333))], h) (by decide +kernel) rfl ?_
  refine zG_callV (idx := 425) (R := (fun a => (some (zi a.1), a.2))) (as := [zi 1]) (rest := []) (n := 1) (fun a ha => c_Mod_refuse hl ha) (by decide +kernel) ⟨ok_Mod_refuse, by decide, by decide +kernel⟩ rfl w_555 w_556 w_557 (by decide) rfl rfl rfl (Nat.le_of_ble_eq_true rfl) fun x2 => ?_
  exact zG_ret (r := some (zi x2.1)) rfl (zrd_i rfl (by decide +kernel))
set_option maxRecDepth 20000 in
theorem k_Mod_shift {l : Launch} {X : zX} (hl : l.stackTraces = false) {h : zH} {v1 : Int32} : zGl l m_Mod_shift X 0 0 (f_Mod_shift h v1) (0, [some (zr (some (11, 333))), some (zi v1)], [], h) (fun x => .inr ((fun a => (.inl (some (zi a.1)), a.2) : Int32 × zH → zF) x)) := by
  unfold f_Mod_shift
  refine zG_bind (fun y => (5, [some (zr (some (11, 333))), some (zi v1)], [], y)) (zG_run t_Mod [(.aload_n 0, 0, 0), (.iconst 0, 0, 0), (.putfield 181, 11, 2)] (5, [some (zr (some (11, 333))), some (zi v1)], [], zsI h 333 2 0) (by decide +kernel) rfl (zG_end (L' := [some (zr (some (11, 333))), some (zi v1)]) rfl (And.intro rfl (And.intro rfl trivial)))) fun h1 => ?_
  refine zG_run t_Mod [(.aload_n 0, 0, 0), (.getfield 40, 11, 3), (.iconst 2, 0, 0)] (10, [some (zr (some (11, 333))), some (zi v1)], [zi 2, zr (some (62, 336))], h1) (by decide +kernel) rfl ?_
  refine zG_aldc (v := zi (h1.1 336 2)) rfl (by decide +kernel) (by decide +kernel) rfl ?_
  refine zG_if (op := .eq) (off := 13) (tgt := 24) (by decide +kernel) rfl Iff.rfl (fun c7 => ?_) (fun c7 => ?_)
  · exact zG_forget (L' := [some (zr (some (11, 333))), none]) (And.intro rfl trivial) (k_Mod_shift_j24 hl)
  · refine zG_run t_Mod [(.iload_n 1, 0, 0), (.iconst 0, 0, 0), (.bipush 7, 0, 0)] (18, [some (zr (some (11, 333))), some (zi v1)], [zi 7, zi 0, zi v1], h1) (by decide +kernel) rfl ?_
    refine zG_callS (idx := 391) (R := (fun a => (some (zi a), h1))) (as := [zi v1, zi 0, zi 7]) (rest := []) (n := 3) (fun a ha => c_Mod_isIn hl ha) (by decide +kernel) ⟨ok_Mod_isIn, by decide, by decide +kernel⟩ rfl w_526 w_527 rfl rfl (Nat.le_of_ble_eq_true rfl) fun x3 => ?_
    refine zG_if (op := .ne) (off := 9) (tgt := 30) (by decide +kernel) rfl Iff.rfl (fun c6 => ?_) (fun c6 => ?_)
    · refine zG_run t_Mod [(.aload_n 0, 0, 0)] (31, [some (zr (some (11, 333))), some (zi v1)], [zr (some (11, 333))], h1) (by decide +kernel) rfl ?_
      refine zG_callV (idx := 428) (R := (fun a => (none, a))) (as := []) (rest := []) (n := 0) (fun a ha => c_Mod_keep hl ha) (by decide +kernel) ⟨ok_Mod_keep, by decide, by decide +kernel⟩ rfl w_558 w_559 w_560 (by decide) rfl rfl rfl (Nat.le_of_ble_eq_true rfl) fun x4 => ?_
      refine zG_run t_Mod [(.aload_n 0, 0, 0), (.iload_n 1, 0, 0)] (36, [some (zr (some (11, 333))), some (zi v1)], [zi v1, zr (some (11, 333))], x4) (by decide +kernel) rfl ?_
      refine zG_callV (idx := 438) (R := (fun a => (some (zi a.1), a.2))) (as := [zi v1]) (rest := []) (n := 1) (fun a ha => c_Mod_shiftNow hl ha) (by decide +kernel) ⟨ok_Mod_shiftNow, by decide, by decide +kernel⟩ rfl w_567 w_568 w_569 (by decide) rfl rfl rfl (Nat.le_of_ble_eq_true rfl) fun x5 => ?_
      exact zG_ret (r := some (zi x5.1)) rfl (zrd_i rfl (by decide +kernel))
    · exact zG_forget (L' := [some (zr (some (11, 333))), none]) (And.intro rfl trivial) (k_Mod_shift_j24 hl)
theorem c_Mod_shift {l : Launch} {X : zX} (hl : l.stackTraces = false) {h : zH} {v1 : Int32} {x : Int32 × zH} (hx : f_Mod_shift h v1 = some x) : zCt l (true, 2) 2 m_Mod_shift X 0 0 [zr (some (11, 333)), zi v1] h ((fun a => (.inl (some (zi a.1)), a.2) : Int32 × zH → zF) x) :=
  zG_ct (R := fun a => (.inl (some (zi a.1)), a.2)) (x := x) ok_Mod_shift hl (Nat.le_of_ble_eq_true rfl) hx (k_Mod_shift hl)
def m_Mod_taken : zM := (({ cls := "ScanPackerModel", name := "taken", desc := "(II)I" } : Jvm.MethodName), prog_13_method_87_code, 5, (Option.some Jvm.ClassFile.FieldType.int), [], 3)
theorem ok_Mod_taken : zMok m_Mod_taken := ⟨by decide +kernel, zW_of 1970 (by decide +kernel) (by decide +kernel), zW_of 134 (by decide +kernel) (by decide +kernel), by decide, by decide +kernel, by decide +kernel⟩
set_option maxRecDepth 20000 in
theorem k_Mod_taken_b15 {l : Launch} {X : zX} (hl : l.stackTraces = false) {h : zH} {v3 : Int32} {v4 : Int32} : zGl l m_Mod_taken X 0 0 (f_Mod_taken_b15 h v3 v4) (15, [some (zr (some (11, 333))), none, none, some (zi v3), some (zi v4)], [], h) (Sum.elim (fun s : Int32 × Int32 => .inl (15, [some (zr (some (11, 333))), none, none, some (zi s.1), some (zi s.2)], [], h)) (fun y : Int32 => .inl (68, [none, none, none, some (zi y), none], [], h))) := by
  unfold f_Mod_taken_b15
  refine zG_run t_Mod [(.iload 4, 0, 0), (.aload_n 0, 0, 0), (.getfield 40, 11, 3), (.iconst 0, 0, 0)] (22, [some (zr (some (11, 333))), none, none, some (zi v3), some (zi v4)], [zi 0, zr (some (62, 336)), zi v4], h) (by decide +kernel) rfl ?_
  refine zG_aldc (v := zi (h.1 336 0)) rfl (by decide +kernel) (by decide +kernel) rfl ?_
  refine zG_icmp (op := .ge) (off := 45) (tgt := 68) (by decide +kernel) rfl Iff.rfl (fun c7 => ?_) (fun c7 => ?_)
  · exact zG_end (L' := [none, none, none, some (zi v3), none]) rfl (And.intro rfl trivial)
  · refine zG_run t_Mod [(.aload_n 0, 0, 0), (.getfield 59, 11, 9), (.iload 4, 0, 0)] (32, [some (zr (some (11, 333))), none, none, some (zi v3), some (zi v4)], [zi v4, zr (some (68, 342))], h) (by decide +kernel) rfl ?_
    refine zG_ald (v := zi (h.1 342 v4.toNatClampNeg)) (n := 12) rfl (by decide +kernel) rfl rfl fun hb3 => ?_
    refine zG_run t_Mod [(.iconst (-1), 0, 0)] (34, [some (zr (some (11, 333))), none, none, some (zi v3), some (zi v4)], [zi (-1), zi (h.1 342 v4.toNatClampNeg)], h) (by decide +kernel) rfl ?_
    refine zG_icmp (op := .eq) (off := 28) (tgt := 62) (by decide +kernel) rfl Iff.rfl (fun c6 => ?_) (fun c6 => ?_)
    · refine zG_run t_Mod [(.iinc 4 1, 0, 0), (.goto (-50), 0, 0)] (15, [some (zr (some (11, 333))), none, none, some (zi v3), some (zi (v4 + 1))], [], h) (by decide +kernel) rfl ?_
      exact zG_end (L' := [some (zr (some (11, 333))), none, none, some (zi v3), some (zi (v4 + 1))]) rfl (And.intro rfl (And.intro rfl (And.intro rfl trivial)))
    · refine zG_run t_Mod [(.iload_n 3, 0, 0), (.iconst 1, 0, 0), (.iload 4, 0, 0), (.ishl, 0, 0), (.iconst (-1), 0, 0), (.ixor, 0, 0), (.iand, 0, 0), (.aload_n 0, 0, 0), (.getfield 90, 11, 28), (.aload_n 0, 0, 0), (.getfield 59, 11, 9), (.iload 4, 0, 0)] (55, [some (zr (some (11, 333))), none, none, some (zi v3), some (zi v4)], [zi v4, zr (some (68, 342)), zr (some (77, 351)), zi (v3 &&& ((zshl 1 v4) ^^^ (-1)))], h) (by decide +kernel) rfl ?_
      refine zG_ald (v := zi (h.1 342 v4.toNatClampNeg)) (n := 12) rfl (by decide +kernel) rfl rfl fun hb4 => ?_
      refine zG_ald (v := zi (h.1 351 (h.1 342 v4.toNatClampNeg).toNatClampNeg)) (n := 22) rfl (by decide +kernel) rfl rfl fun hb5 => ?_
      refine zG_run t_Mod [(.iload 4, 0, 0), (.ishl, 0, 0), (.ior, 0, 0), (.istore_n 3, 0, 0), (.iinc 4 1, 0, 0), (.goto (-50), 0, 0)] (15, [some (zr (some (11, 333))), none, none, some (zi ((v3 &&& ((zshl 1 v4) ^^^ (-1))) ||| (zshl (h.1 351 (h.1 342 v4.toNatClampNeg).toNatClampNeg) v4))), some (zi (v4 + 1))], [], h) (by decide +kernel) rfl ?_
      exact zG_end (L' := [some (zr (some (11, 333))), none, none, some (zi ((v3 &&& ((zshl 1 v4) ^^^ (-1))) ||| (zshl (h.1 351 (h.1 342 v4.toNatClampNeg).toNatClampNeg) v4))), some (zi (v4 + 1))]) rfl (And.intro rfl (And.intro rfl (And.intro rfl trivial)))
set_option maxRecDepth 20000 in
theorem k_Mod_taken {l : Launch} {X : zX} (hl : l.stackTraces = false) {h : zH} {v1 : Int32} {v2 : Int32} : zGl l m_Mod_taken X 0 0 (f_Mod_taken h v1 v2) (0, [some (zr (some (11, 333))), some (zi v1), some (zi v2), none, none], [], h) (fun x => .inr ((fun a => (.inl (some (zi a.1)), a.2) : Int32 × zH → zF) x)) := by
  unfold f_Mod_taken
  refine zG_run t_Mod [(.aload_n 0, 0, 0), (.iload_n 1, 0, 0)] (2, [some (zr (some (11, 333))), some (zi v1), some (zi v2), none, none], [zi v1, zr (some (11, 333))], h) (by decide +kernel) rfl ?_
  refine zG_callV (idx := 326) (R := (fun a => (none, a))) (as := [zi v1]) (rest := []) (n := 1) (fun a ha => c_Mod_putRow hl ha) (by decide +kernel) ⟨ok_Mod_putRow, by decide, by decide +kernel⟩ rfl w_452 w_453 w_454 (by decide) rfl rfl rfl (Nat.le_of_ble_eq_true rfl) fun x1 => ?_
  refine zG_run t_Mod [(.aload_n 0, 0, 0), (.iload_n 2, 0, 0)] (7, [some (zr (some (11, 333))), some (zi v1), some (zi v2), none, none], [zi v2, zr (some (11, 333))], x1) (by decide +kernel) rfl ?_
  refine zG_callV (idx := 317) (R := (fun a => (none, a))) (as := [zi v2]) (rest := []) (n := 1) (fun a ha => c_Mod_tellLines hl ha) (by decide +kernel) ⟨ok_Mod_tellLines, by decide, by decide +kernel⟩ rfl w_461 w_462 w_463 (by decide) rfl rfl rfl (Nat.le_of_ble_eq_true rfl) fun x2 => ?_
  refine zG_run t_Mod [(.iload_n 1, 0, 0), (.istore_n 3, 0, 0), (.iconst 0, 0, 0), (.istore 4, 0, 0)] (15, [some (zr (some (11, 333))), some (zi v1), some (zi v2), some (zi v1), some (zi 0)], [], x2) (by decide +kernel) rfl ?_
  refine zG_forget (L' := [some (zr (some (11, 333))), none, none, some (zi v1), some (zi 0)]) (And.intro rfl (And.intro rfl (And.intro rfl trivial))) ?_
  refine zG_bind (fun y : Int32 => (68, [none, none, none, some (zi y), none], [], x2)) (zG_iter (fun s : Int32 × Int32 => (15, [some (zr (some (11, 333))), none, none, some (zi s.1), some (zi s.2)], [], x2)) fun s => k_Mod_taken_b15 hl) (fun y9 => ?_)
  refine zG_run t_Mod [(.iload_n 3, 0, 0)] (69, [none, none, none, some (zi y9), none], [zi y9], x2) (by decide +kernel) rfl ?_
  exact zG_ret (r := some (zi y9)) rfl (zrd_i rfl (by decide +kernel))
theorem c_Mod_taken {l : Launch} {X : zX} (hl : l.stackTraces = false) {h : zH} {v1 : Int32} {v2 : Int32} {x : Int32 × zH} (hx : f_Mod_taken h v1 v2 = some x) : zCt l (true, 2) 2 m_Mod_taken X 0 0 [zr (some (11, 333)), zi v1, zi v2] h ((fun a => (.inl (some (zi a.1)), a.2) : Int32 × zH → zF) x) :=
  zG_ct (R := fun a => (.inl (some (zi a.1)), a.2)) (x := x) ok_Mod_taken hl (Nat.le_of_ble_eq_true rfl) hx (k_Mod_taken hl)
def m_Mod_takeNow : zM := (({ cls := "ScanPackerModel", name := "takeNow", desc := "()V" } : Jvm.MethodName), prog_13_method_88_code, 1, (Option.none : Option Jvm.ClassFile.FieldType), [], 4)
theorem ok_Mod_takeNow : zMok m_Mod_takeNow := ⟨by decide +kernel, zW_of 1966 (by decide +kernel) (by decide +kernel), zW_of 134 (by decide +kernel) (by decide +kernel), by decide, by decide +kernel, by decide +kernel⟩
set_option maxRecDepth 20000 in
theorem k_Mod_takeNow {l : Launch} {X : zX} (hl : l.stackTraces = false) {h : zH} : zGl l m_Mod_takeNow X 0 0 (f_Mod_takeNow h) (0, [some (zr (some (11, 333)))], [], h) (fun x => .inr ((fun a => (.inl none, a) : zH → zF) x)) := by
  unfold f_Mod_takeNow
  refine zG_run t_Mod [(.aload_n 0, 0, 0), (.getfield 74, 11, 14), (.iconst 0, 0, 0), (.aload_n 0, 0, 0), (.aload_n 0, 0, 0), (.getfield 74, 11, 14), (.iconst 0, 0, 0)] (11, [some (zr (some (11, 333)))], [zi 0, zr (some (73, 347)), zr (some (11, 333)), zi 0, zr (some (73, 347))], h) (by decide +kernel) rfl ?_
  refine zG_aldc (v := zi (h.1 347 0)) rfl (by decide +kernel) (by decide +kernel) rfl ?_
  refine zG_run t_Mod [(.aload_n 0, 0, 0), (.getfield 74, 11, 14), (.iconst 2, 0, 0)] (17, [some (zr (some (11, 333)))], [zi 2, zr (some (73, 347)), zi (h.1 347 0), zr (some (11, 333)), zi 0, zr (some (73, 347))], h) (by decide +kernel) rfl ?_
  refine zG_aldc (v := zi (h.1 347 2)) rfl (by decide +kernel) (by decide +kernel) rfl ?_
  refine zG_callV (idx := 441) (R := (fun a => (some (zi a.1), a.2))) (as := [zi (h.1 347 0), zi (h.1 347 2)]) (rest := [zi 0, zr (some (73, 347))]) (n := 2) (fun a ha => c_Mod_taken hl ha) (by decide +kernel) ⟨ok_Mod_taken, by decide, by decide +kernel⟩ rfl w_570 w_571 w_572 (by decide) rfl rfl rfl (Nat.le_of_ble_eq_true rfl) fun x1 => ?_
  refine zG_bind (fun y => (22, [some (zr (some (11, 333)))], [], y)) (zG_astc (h' := zsI x1.2 347 0 x1.1) rfl (by decide +kernel) (by decide +kernel) rfl (zG_end (L' := [some (zr (some (11, 333)))]) rfl (And.intro rfl trivial))) fun h2 => ?_
  refine zG_run t_Mod [(.aload_n 0, 0, 0), (.getfield 74, 11, 14), (.iconst 1, 0, 0), (.dup2, 0, 0)] (28, [some (zr (some (11, 333)))], [zi 1, zr (some (73, 347)), zi 1, zr (some (73, 347))], h2) (by decide +kernel) rfl ?_
  refine zG_aldc (v := zi (h2.1 347 1)) rfl (by decide +kernel) (by decide +kernel) rfl ?_
  refine zG_run t_Mod [(.iconst 1, 0, 0), (.iadd, 0, 0)] (31, [some (zr (some (11, 333)))], [zi ((h2.1 347 1) + 1), zi 1, zr (some (73, 347))], h2) (by decide +kernel) rfl ?_
  refine zG_bind (fun y => (32, [some (zr (some (11, 333)))], [], y)) (zG_astc (h' := zsI h2 347 1 ((h2.1 347 1) + 1)) rfl (by decide +kernel) (by decide +kernel) rfl (zG_end (L' := [some (zr (some (11, 333)))]) rfl (And.intro rfl trivial))) fun h3 => ?_
  exact zG_ret (r := none) rfl (zrd_v rfl (by decide +kernel))
theorem c_Mod_takeNow {l : Launch} {X : zX} (hl : l.stackTraces = false) {h : zH} {x : zH} (hx : f_Mod_takeNow h = some x) : zCt l (true, 2) 2 m_Mod_takeNow X 0 0 [zr (some (11, 333))] h ((fun a => (.inl none, a) : zH → zF) x) :=
  zG_ct (R := fun a => (.inl none, a)) (x := x) ok_Mod_takeNow hl (Nat.le_of_ble_eq_true rfl) hx (k_Mod_takeNow hl)
def m_Mod_take : zM := (({ cls := "ScanPackerModel", name := "take", desc := "()I" } : Jvm.MethodName), prog_13_method_89_code, 1, (Option.some Jvm.ClassFile.FieldType.int), [], 5)
theorem ok_Mod_take : zMok m_Mod_take := ⟨by decide +kernel, zW_of 1962 (by decide +kernel) (by decide +kernel), zW_of 134 (by decide +kernel) (by decide +kernel), by decide, by decide +kernel, by decide +kernel⟩
set_option maxRecDepth 20000 in
theorem k_Mod_take {l : Launch} {X : zX} (hl : l.stackTraces = false) {h : zH} : zGl l m_Mod_take X 0 0 (f_Mod_take h) (0, [some (zr (some (11, 333)))], [], h) (fun x => .inr ((fun a => (.inl (some (zi a.1)), a.2) : Int32 × zH → zF) x)) := by
  unfold f_Mod_take
  refine zG_bind (fun y => (5, [some (zr (some (11, 333)))], [], y)) (zG_run t_Mod [(.aload_n 0, 0, 0), (.iconst 0, 0, 0), (.putfield 181, 11, 2)] (5, [some (zr (some (11, 333)))], [], zsI h 333 2 0) (by decide +kernel) rfl (zG_end (L' := [some (zr (some (11, 333)))]) rfl (And.intro rfl trivial))) fun h1 => ?_
  refine zG_run t_Mod [(.aload_n 0, 0, 0)] (6, [some (zr (some (11, 333)))], [zr (some (11, 333))], h1) (by decide +kernel) rfl ?_
  refine zG_callV (idx := 428) (R := (fun a => (none, a))) (as := []) (rest := []) (n := 0) (fun a ha => c_Mod_keep hl ha) (by decide +kernel) ⟨ok_Mod_keep, by decide, by decide +kernel⟩ rfl w_558 w_559 w_560 (by decide) rfl rfl rfl (Nat.le_of_ble_eq_true rfl) fun x2 => ?_
  refine zG_run t_Mod [(.aload_n 0, 0, 0)] (10, [some (zr (some (11, 333)))], [zr (some (11, 333))], x2) (by decide +kernel) rfl ?_
  refine zG_callV (idx := 444) (R := (fun a => (none, a))) (as := []) (rest := []) (n := 0) (fun a ha => c_Mod_takeNow hl ha) (by decide +kernel) ⟨ok_Mod_takeNow, by decide, by decide +kernel⟩ rfl w_573 w_574 w_575 (by decide) rfl rfl rfl (Nat.le_of_ble_eq_true rfl) fun x3 => ?_
  refine zG_run t_Mod [(.aload_n 0, 0, 0), (.getfield 74, 11, 14), (.iconst 0, 0, 0)] (18, [some (zr (some (11, 333)))], [zi 0, zr (some (73, 347))], x3) (by decide +kernel) rfl ?_
  refine zG_aldc (v := zi (x3.1 347 0)) rfl (by decide +kernel) (by decide +kernel) rfl ?_
  exact zG_ret (r := some (zi (x3.1 347 0))) rfl (zrd_i rfl (by decide +kernel))
theorem c_Mod_take {l : Launch} {X : zX} (hl : l.stackTraces = false) {h : zH} {x : Int32 × zH} (hx : f_Mod_take h = some x) : zCt l (true, 2) 2 m_Mod_take X 0 0 [zr (some (11, 333))] h ((fun a => (.inl (some (zi a.1)), a.2) : Int32 × zH → zF) x) :=
  zG_ct (R := fun a => (.inl (some (zi a.1)), a.2)) (x := x) ok_Mod_take hl (Nat.le_of_ble_eq_true rfl) hx (k_Mod_take hl)
def m_Mod_longest : zM := (({ cls := "ScanPackerModel", name := "longest", desc := "()I" } : Jvm.MethodName), prog_13_method_90_code, 3, (Option.some Jvm.ClassFile.FieldType.int), [], 2)
theorem ok_Mod_longest : zMok m_Mod_longest := ⟨by decide +kernel, zW_of 1978 (by decide +kernel) (by decide +kernel), zW_of 134 (by decide +kernel) (by decide +kernel), by decide, by decide +kernel, by decide +kernel⟩
set_option maxRecDepth 20000 in
theorem k_Mod_longest_b4 {l : Launch} {X : zX} (hl : l.stackTraces = false) {h : zH} {v1 : Int32} {v2 : Int32} : zGl l m_Mod_longest X 0 0 (f_Mod_longest_b4 h v1 v2) (4, [some (zr (some (11, 333))), some (zi v1), some (zi v2)], [], h) (Sum.elim (fun s : Int32 × Int32 => .inl (4, [some (zr (some (11, 333))), some (zi s.1), some (zi s.2)], [], h)) (fun y : Int32 => .inl (31, [none, some (zi y), none], [], h))) := by
  unfold f_Mod_longest_b4
  refine zG_run t_Mod [(.iload_n 2, 0, 0), (.aload_n 0, 0, 0), (.getfield 40, 11, 3), (.iconst 2, 0, 0)] (10, [some (zr (some (11, 333))), some (zi v1), some (zi v2)], [zi 2, zr (some (62, 336)), zi v2], h) (by decide +kernel) rfl ?_
  refine zG_aldc (v := zi (h.1 336 2)) rfl (by decide +kernel) (by decide +kernel) rfl ?_
  refine zG_icmp (op := .ge) (off := 20) (tgt := 31) (by decide +kernel) rfl Iff.rfl (fun c3 => ?_) (fun c3 => ?_)
  · exact zG_end (L' := [none, some (zi v1), none]) rfl (And.intro rfl trivial)
  · refine zG_run t_Mod [(.iload_n 1, 0, 0), (.aload_n 0, 0, 0), (.getfield 62, 11, 10), (.iload_n 2, 0, 0)] (20, [some (zr (some (11, 333))), some (zi v1), some (zi v2)], [zi v2, zr (some (69, 343)), zi v1], h) (by decide +kernel) rfl ?_
    refine zG_ald (v := zi (h.1 343 v2.toNatClampNeg)) (n := 6) rfl (by decide +kernel) rfl rfl fun hb1 => ?_
    refine zG_callS (idx := 447) (R := (fun a => (some (zi a), h))) (as := [zi v1, zi (h.1 343 v2.toNatClampNeg)]) (rest := []) (n := 2) (fun a ha => c_Math_max hl ha) (by decide +kernel) ⟨ok_Math_max, by decide, by decide +kernel⟩ rfl w_576 w_279 rfl rfl (Nat.le_of_ble_eq_true rfl) fun x2 => ?_
    refine zG_run t_Mod [(.istore_n 1, 0, 0), (.iinc 2 1, 0, 0), (.goto (-24), 0, 0)] (4, [some (zr (some (11, 333))), some (zi x2), some (zi (v2 + 1))], [], h) (by decide +kernel) rfl ?_
    exact zG_end (L' := [some (zr (some (11, 333))), some (zi x2), some (zi (v2 + 1))]) rfl (And.intro rfl (And.intro rfl (And.intro rfl trivial)))
set_option maxRecDepth 20000 in
theorem k_Mod_longest {l : Launch} {X : zX} (hl : l.stackTraces = false) {h : zH} : zGl l m_Mod_longest X 0 0 (f_Mod_longest h) (0, [some (zr (some (11, 333))), none, none], [], h) (fun x => .inr ((fun a => (.inl (some (zi a)), h) : Int32 → zF) x)) := by
  unfold f_Mod_longest
  refine zG_run t_Mod [(.iconst 0, 0, 0), (.istore_n 1, 0, 0), (.iconst 0, 0, 0), (.istore_n 2, 0, 0)] (4, [some (zr (some (11, 333))), some (zi 0), some (zi 0)], [], h) (by decide +kernel) rfl ?_
  refine zG_forget (L' := [some (zr (some (11, 333))), some (zi 0), some (zi 0)]) (And.intro rfl (And.intro rfl (And.intro rfl trivial))) ?_
  refine zG_bind (fun y : Int32 => (31, [none, some (zi y), none], [], h)) (zG_iter (fun s : Int32 × Int32 => (4, [some (zr (some (11, 333))), some (zi s.1), some (zi s.2)], [], h)) fun s => k_Mod_longest_b4 hl) (fun y5 => ?_)
  refine zG_run t_Mod [(.iload_n 1, 0, 0)] (32, [none, some (zi y5), none], [zi y5], h) (by decide +kernel) rfl ?_
  exact zG_ret (r := some (zi y5)) rfl (zrd_i rfl (by decide +kernel))
theorem c_Mod_longest {l : Launch} {X : zX} (hl : l.stackTraces = false) {h : zH} {x : Int32} (hx : f_Mod_longest h = some x) : zCt l (true, 2) 2 m_Mod_longest X 0 0 [zr (some (11, 333))] h ((fun a => (.inl (some (zi a)), h) : Int32 → zF) x) :=
  zG_ct (R := fun a => (.inl (some (zi a)), h)) (x := x) ok_Mod_longest hl (Nat.le_of_ble_eq_true rfl) hx (k_Mod_longest hl)
def m_Mod_load : zM := (({ cls := "ScanPackerModel", name := "load", desc := "(I)I" } : Jvm.MethodName), prog_13_method_91_code, 2, (Option.some Jvm.ClassFile.FieldType.int), [], 3)
theorem ok_Mod_load : zMok m_Mod_load := ⟨by decide +kernel, zW_of 1974 (by decide +kernel) (by decide +kernel), zW_of 134 (by decide +kernel) (by decide +kernel), by decide, by decide +kernel, by decide +kernel⟩
set_option maxRecDepth 20000 in
theorem k_Mod_load {l : Launch} {X : zX} (hl : l.stackTraces = false) {h : zH} {v1 : Int32} : zGl l m_Mod_load X 0 0 (f_Mod_load h v1) (0, [some (zr (some (11, 333))), some (zi v1)], [], h) (fun x => .inr ((fun a => (.inl (some (zi a.1)), a.2) : Int32 × zH → zF) x)) := by
  unfold f_Mod_load
  refine zG_bind (fun y => (5, [some (zr (some (11, 333))), some (zi v1)], [], y)) (zG_run t_Mod [(.aload_n 0, 0, 0), (.iconst 0, 0, 0), (.putfield 181, 11, 2)] (5, [some (zr (some (11, 333))), some (zi v1)], [], zsI h 333 2 0) (by decide +kernel) rfl (zG_end (L' := [some (zr (some (11, 333))), some (zi v1)]) rfl (And.intro rfl (And.intro rfl trivial)))) fun h1 => ?_
  refine zG_run t_Mod [(.iload_n 1, 0, 0), (.iconst 0, 0, 0), (.aload_n 0, 0, 0)] (8, [some (zr (some (11, 333))), some (zi v1)], [zr (some (11, 333)), zi 0, zi v1], h1) (by decide +kernel) rfl ?_
  refine zG_callV (idx := 323) (R := (fun a => (some (zi a), h1))) (as := []) (rest := [zi 0, zi v1]) (n := 0) (fun a ha => c_Mod_rows hl ha) (by decide +kernel) ⟨ok_Mod_rows, by decide, by decide +kernel⟩ rfl w_449 w_450 w_451 (by decide) rfl rfl rfl (Nat.le_of_ble_eq_true rfl) fun x2 => ?_
  refine zG_run t_Mod [(.iconst 1, 0, 0), (.isub, 0, 0)] (13, [some (zr (some (11, 333))), some (zi v1)], [zi (x2 - 1), zi 0, zi v1], h1) (by decide +kernel) rfl ?_
  refine zG_callS (idx := 391) (R := (fun a => (some (zi a), h1))) (as := [zi v1, zi 0, zi (x2 - 1)]) (rest := []) (n := 3) (fun a ha => c_Mod_isIn hl ha) (by decide +kernel) ⟨ok_Mod_isIn, by decide, by decide +kernel⟩ rfl w_526 w_527 rfl rfl (Nat.le_of_ble_eq_true rfl) fun x3 => ?_
  refine zG_if (op := .ne) (off := 9) (tgt := 25) (by decide +kernel) rfl Iff.rfl (fun c10 => ?_) (fun c10 => ?_)
  · refine zG_run t_Mod [(.aload_n 0, 0, 0)] (26, [some (zr (some (11, 333))), some (zi v1)], [zr (some (11, 333))], h1) (by decide +kernel) rfl ?_
    refine zG_callV (idx := 428) (R := (fun a => (none, a))) (as := []) (rest := []) (n := 0) (fun a ha => c_Mod_keep hl ha) (by decide +kernel) ⟨ok_Mod_keep, by decide, by decide +kernel⟩ rfl w_558 w_559 w_560 (by decide) rfl rfl rfl (Nat.le_of_ble_eq_true rfl) fun x4 => ?_
    refine zG_run t_Mod [(.aload_n 0, 0, 0), (.getfield 74, 11, 14), (.iconst 0, 0, 0), (.iload_n 1, 0, 0)] (35, [some (zr (some (11, 333))), some (zi v1)], [zi v1, zi 0, zr (some (73, 347))], x4) (by decide +kernel) rfl ?_
    refine zG_bind (fun y => (36, [some (zr (some (11, 333))), some (zi v1)], [], y)) (zG_astc (h' := zsI x4 347 0 v1) rfl (by decide +kernel) (by decide +kernel) rfl (zG_end (L' := [some (zr (some (11, 333))), some (zi v1)]) rfl (And.intro rfl (And.intro rfl trivial)))) fun h5 => ?_
    refine zG_run t_Mod [(.aload_n 0, 0, 0), (.getfield 74, 11, 14), (.iconst 1, 0, 0), (.dup2, 0, 0)] (42, [some (zr (some (11, 333))), some (zi v1)], [zi 1, zr (some (73, 347)), zi 1, zr (some (73, 347))], h5) (by decide +kernel) rfl ?_
    refine zG_aldc (v := zi (h5.1 347 1)) rfl (by decide +kernel) (by decide +kernel) rfl ?_
    refine zG_run t_Mod [(.aload_n 0, 0, 0)] (44, [some (zr (some (11, 333))), some (zi v1)], [zr (some (11, 333)), zi (h5.1 347 1), zi 1, zr (some (73, 347))], h5) (by decide +kernel) rfl ?_
    refine zG_callV (idx := 452) (R := (fun a => (some (zi a), h5))) (as := []) (rest := [zi (h5.1 347 1), zi 1, zr (some (73, 347))]) (n := 0) (fun a ha => c_Mod_longest hl ha) (by decide +kernel) ⟨ok_Mod_longest, by decide, by decide +kernel⟩ rfl w_577 w_578 w_579 (by decide) rfl rfl rfl (Nat.le_of_ble_eq_true rfl) fun x6 => ?_
    refine zG_run t_Mod [(.iadd, 0, 0)] (48, [some (zr (some (11, 333))), some (zi v1)], [zi ((h5.1 347 1) + x6), zi 1, zr (some (73, 347))], h5) (by decide +kernel) rfl ?_
    refine zG_bind (fun y => (49, [some (zr (some (11, 333))), some (zi v1)], [], y)) (zG_astc (h' := zsI h5 347 1 ((h5.1 347 1) + x6)) rfl (by decide +kernel) (by decide +kernel) rfl (zG_end (L' := [some (zr (some (11, 333))), some (zi v1)]) rfl (And.intro rfl (And.intro rfl trivial)))) fun h7 => ?_
    refine zG_run t_Mod [(.aload_n 0, 0, 0)] (50, [some (zr (some (11, 333))), some (zi v1)], [zr (some (11, 333))], h7) (by decide +kernel) rfl ?_
    refine zG_callV (idx := 452) (R := (fun a => (some (zi a), h7))) (as := []) (rest := []) (n := 0) (fun a ha => c_Mod_longest hl ha) (by decide +kernel) ⟨ok_Mod_longest, by decide, by decide +kernel⟩ rfl w_577 w_578 w_579 (by decide) rfl rfl rfl (Nat.le_of_ble_eq_true rfl) fun x8 => ?_
    exact zG_ret (r := some (zi x8)) rfl (zrd_i rfl (by decide +kernel))
  · refine zG_run t_Mod [(.aload_n 0, 0, 0), (.iconst 1, 0, 0)] (21, [some (zr (some (11, 333))), some (zi v1)], [zi 1, zr (some (11, 333))], h1) (by decide +kernel) rfl ?_
    refine zG_callV (idx := 425) (R := (fun a => (some (zi a.1), a.2))) (as := [zi 1]) (rest := []) (n := 1) (fun a ha => c_Mod_refuse hl ha) (by decide +kernel) ⟨ok_Mod_refuse, by decide, by decide +kernel⟩ rfl w_555 w_556 w_557 (by decide) rfl rfl rfl (Nat.le_of_ble_eq_true rfl) fun x9 => ?_
    exact zG_ret (r := some (zi x9.1)) rfl (zrd_i rfl (by decide +kernel))
theorem c_Mod_load {l : Launch} {X : zX} (hl : l.stackTraces = false) {h : zH} {v1 : Int32} {x : Int32 × zH} (hx : f_Mod_load h v1 = some x) : zCt l (true, 2) 2 m_Mod_load X 0 0 [zr (some (11, 333)), zi v1] h ((fun a => (.inl (some (zi a.1)), a.2) : Int32 × zH → zF) x) :=
  zG_ct (R := fun a => (.inl (some (zi a.1)), a.2)) (x := x) ok_Mod_load hl (Nat.le_of_ble_eq_true rfl) hx (k_Mod_load hl)
def m_Mod_applyNow : zM := (({ cls := "ScanPackerModel", name := "applyNow", desc := "()I" } : Jvm.MethodName), prog_13_method_92_code, 3, (Option.some Jvm.ClassFile.FieldType.int), [], 3)
theorem ok_Mod_applyNow : zMok m_Mod_applyNow := ⟨by decide +kernel, zW_of 1987 (by decide +kernel) (by decide +kernel), zW_of 134 (by decide +kernel) (by decide +kernel), by decide, by decide +kernel, by decide +kernel⟩
set_option maxRecDepth 20000 in
theorem k_Mod_applyNow_b4 {l : Launch} {X : zX} (hl : l.stackTraces = false) {h : zH} {v1 : Int32} {v2 : Int32} : zGl l m_Mod_applyNow X 0 0 (f_Mod_applyNow_b4 h v1 v2) (4, [some (zr (some (11, 333))), some (zi v1), some (zi v2)], [], h) (Sum.elim (fun s : Int32 × Int32 × zH => .inl (4, [some (zr (some (11, 333))), some (zi s.1), some (zi s.2.1)], [], s.2.2)) (fun y : Int32 × zH => .inl (66, [none, some (zi y.1), none], [], y.2))) := by
  unfold f_Mod_applyNow_b4
  refine zG_run t_Mod [(.iload_n 2, 0, 0), (.aload_n 0, 0, 0)] (6, [some (zr (some (11, 333))), some (zi v1), some (zi v2)], [zr (some (11, 333)), zi v2], h) (by decide +kernel) rfl ?_
  refine zG_callV (idx := 332) (R := (fun a => (some (zi a), h))) (as := []) (rest := [zi v2]) (n := 0) (fun a ha => c_Mod_faults hl ha) (by decide +kernel) ⟨ok_Mod_faults, by decide, by decide +kernel⟩ rfl w_467 w_468 w_469 (by decide) rfl rfl rfl (Nat.le_of_ble_eq_true rfl) fun x1 => ?_
  refine zG_icmp (op := .ge) (off := 57) (tgt := 66) (by decide +kernel) rfl Iff.rfl (fun c8 => ?_) (fun c8 => ?_)
  · exact zG_end (L' := [none, some (zi v1), none]) rfl (And.intro rfl trivial)
  · refine zG_run t_Mod [(.aload_n 0, 0, 0), (.getfield 74, 11, 14), (.bipush 13, 0, 0), (.iload_n 2, 0, 0), (.iadd, 0, 0)] (20, [some (zr (some (11, 333))), some (zi v1), some (zi v2)], [zi (13 + v2), zr (some (73, 347))], h) (by decide +kernel) rfl ?_
    refine zG_ald (v := zi (h.1 347 (13 + v2).toNatClampNeg)) (n := 57) rfl (by decide +kernel) rfl rfl fun hb2 => ?_
    refine zG_run t_Mod [(.iconst 1, 0, 0)] (22, [some (zr (some (11, 333))), some (zi v1), some (zi v2)], [zi 1, zi (h.1 347 (13 + v2).toNatClampNeg)], h) (by decide +kernel) rfl ?_
    refine zG_icmp (op := .eq) (off := 38) (tgt := 60) (by decide +kernel) rfl Iff.rfl (fun c7 => ?_) (fun c7 => ?_)
    · refine zG_run t_Mod [(.iinc 2 1, 0, 0), (.goto (-59), 0, 0)] (4, [some (zr (some (11, 333))), some (zi v1), some (zi (v2 + 1))], [], h) (by decide +kernel) rfl ?_
      exact zG_end (L' := [some (zr (some (11, 333))), some (zi v1), some (zi (v2 + 1))]) rfl (And.intro rfl (And.intro rfl (And.intro rfl trivial)))
    · refine zG_run t_Mod [(.aload_n 0, 0, 0), (.getfield 96, 11, 30), (.bipush 64, 0, 0), (.iload_n 2, 0, 0), (.imul, 0, 0), (.aload_n 0, 0, 0), (.getfield 74, 11, 14), (.iconst 0, 0, 0)] (38, [some (zr (some (11, 333))), some (zi v1), some (zi v2)], [zi 0, zr (some (73, 347)), zi (64 * v2), zr (some (79, 353))], h) (by decide +kernel) rfl ?_
      refine zG_aldc (v := zi (h.1 347 0)) rfl (by decide +kernel) (by decide +kernel) rfl ?_
      refine zG_run t_Mod [(.iadd, 0, 0)] (40, [some (zr (some (11, 333))), some (zi v1), some (zi v2)], [zi ((64 * v2) + (h.1 347 0)), zr (some (79, 353))], h) (by decide +kernel) rfl ?_
      refine zG_ald (v := zi (h.1 353 ((64 * v2) + (h.1 347 0)).toNatClampNeg)) (n := 2816) rfl (by decide +kernel) rfl rfl fun hb3 => ?_
      refine zG_if (op := .ne) (off := 6) (tgt := 47) (by decide +kernel) rfl Iff.rfl (fun c6 => ?_) (fun c6 => ?_)
      · refine zG_run t_Mod [(.aload_n 0, 0, 0), (.getfield 74, 11, 14), (.bipush 13, 0, 0), (.iload_n 2, 0, 0), (.iadd, 0, 0), (.iconst 1, 0, 0)] (56, [some (zr (some (11, 333))), some (zi v1), some (zi v2)], [zi 1, zi (13 + v2), zr (some (73, 347))], h) (by decide +kernel) rfl ?_
        refine zG_guard fun hb5 => ?_
        refine zG_bind (fun y => (57, [some (zr (some (11, 333))), some (zi v1), some (zi v2)], [], y)) (zG_astc (h' := zsI h 347 (13 + v2).toNatClampNeg 1) rfl (by decide +kernel) hb5 rfl (zG_end (L' := [some (zr (some (11, 333))), some (zi v1), some (zi v2)]) rfl (And.intro rfl (And.intro rfl (And.intro rfl trivial))))) fun h4 => ?_
        refine zG_run t_Mod [(.iinc 1 1, 0, 0), (.iinc 2 1, 0, 0), (.goto (-59), 0, 0)] (4, [some (zr (some (11, 333))), some (zi (v1 + 1)), some (zi (v2 + 1))], [], h4) (by decide +kernel) rfl ?_
        exact zG_end (L' := [some (zr (some (11, 333))), some (zi (v1 + 1)), some (zi (v2 + 1))]) rfl (And.intro rfl (And.intro rfl (And.intro rfl trivial)))
      · refine zG_run t_Mod [(.goto 16, 0, 0), (.iinc 2 1, 0, 0), (.goto (-59), 0, 0)] (4, [some (zr (some (11, 333))), some (zi v1), some (zi (v2 + 1))], [], h) (by decide +kernel) rfl ?_
        exact zG_end (L' := [some (zr (some (11, 333))), some (zi v1), some (zi (v2 + 1))]) rfl (And.intro rfl (And.intro rfl (And.intro rfl trivial)))
set_option maxRecDepth 20000 in
theorem k_Mod_applyNow {l : Launch} {X : zX} (hl : l.stackTraces = false) {h : zH} : zGl l m_Mod_applyNow X 0 0 (f_Mod_applyNow h) (0, [some (zr (some (11, 333))), none, none], [], h) (fun x => .inr ((fun a => (.inl (some (zi a.1)), a.2) : Int32 × zH → zF) x)) := by
  unfold f_Mod_applyNow
  refine zG_run t_Mod [(.iconst 0, 0, 0), (.istore_n 1, 0, 0), (.iconst 0, 0, 0), (.istore_n 2, 0, 0)] (4, [some (zr (some (11, 333))), some (zi 0), some (zi 0)], [], h) (by decide +kernel) rfl ?_
  refine zG_forget (L' := [some (zr (some (11, 333))), some (zi 0), some (zi 0)]) (And.intro rfl (And.intro rfl (And.intro rfl trivial))) ?_
  refine zG_bind (fun y : Int32 × zH => (66, [none, some (zi y.1), none], [], y.2)) (zG_iter (fun s : Int32 × Int32 × zH => (4, [some (zr (some (11, 333))), some (zi s.1), some (zi s.2.1)], [], s.2.2)) fun s => k_Mod_applyNow_b4 hl) (fun y10 => ?_)
  refine zG_run t_Mod [(.iload_n 1, 0, 0)] (67, [none, some (zi y10.1), none], [zi y10.1], y10.2) (by decide +kernel) rfl ?_
  exact zG_ret (r := some (zi y10.1)) rfl (zrd_i rfl (by decide +kernel))
theorem c_Mod_applyNow {l : Launch} {X : zX} (hl : l.stackTraces = false) {h : zH} {x : Int32 × zH} (hx : f_Mod_applyNow h = some x) : zCt l (true, 2) 2 m_Mod_applyNow X 0 0 [zr (some (11, 333))] h ((fun a => (.inl (some (zi a.1)), a.2) : Int32 × zH → zF) x) :=
  zG_ct (R := fun a => (.inl (some (zi a.1)), a.2)) (x := x) ok_Mod_applyNow hl (Nat.le_of_ble_eq_true rfl) hx (k_Mod_applyNow hl)
def m_Mod_apply : zM := (({ cls := "ScanPackerModel", name := "apply", desc := "()I" } : Jvm.MethodName), prog_13_method_93_code, 1, (Option.some Jvm.ClassFile.FieldType.int), [], 4)
theorem ok_Mod_apply : zMok m_Mod_apply := ⟨by decide +kernel, zW_of 1983 (by decide +kernel) (by decide +kernel), zW_of 134 (by decide +kernel) (by decide +kernel), by decide, by decide +kernel, by decide +kernel⟩
set_option maxRecDepth 20000 in
theorem k_Mod_apply {l : Launch} {X : zX} (hl : l.stackTraces = false) {h : zH} : zGl l m_Mod_apply X 0 0 (f_Mod_apply h) (0, [some (zr (some (11, 333)))], [], h) (fun x => .inr ((fun a => (.inl (some (zi a.1)), a.2) : Int32 × zH → zF) x)) := by
  unfold f_Mod_apply
  refine zG_bind (fun y => (5, [some (zr (some (11, 333)))], [], y)) (zG_run t_Mod [(.aload_n 0, 0, 0), (.iconst 0, 0, 0), (.putfield 181, 11, 2)] (5, [some (zr (some (11, 333)))], [], zsI h 333 2 0) (by decide +kernel) rfl (zG_end (L' := [some (zr (some (11, 333)))]) rfl (And.intro rfl trivial))) fun h1 => ?_
  refine zG_run t_Mod [(.aload_n 0, 0, 0)] (6, [some (zr (some (11, 333)))], [zr (some (11, 333))], h1) (by decide +kernel) rfl ?_
  refine zG_callV (idx := 428) (R := (fun a => (none, a))) (as := []) (rest := []) (n := 0) (fun a ha => c_Mod_keep hl ha) (by decide +kernel) ⟨ok_Mod_keep, by decide, by decide +kernel⟩ rfl w_558 w_559 w_560 (by decide) rfl rfl rfl (Nat.le_of_ble_eq_true rfl) fun x2 => ?_
  refine zG_run t_Mod [(.aload_n 0, 0, 0)] (10, [some (zr (some (11, 333)))], [zr (some (11, 333))], x2) (by decide +kernel) rfl ?_
  refine zG_callV (idx := 455) (R := (fun a => (some (zi a.1), a.2))) (as := []) (rest := []) (n := 0) (fun a ha => c_Mod_applyNow hl ha) (by decide +kernel) ⟨ok_Mod_applyNow, by decide, by decide +kernel⟩ rfl w_580 w_581 w_582 (by decide) rfl rfl rfl (Nat.le_of_ble_eq_true rfl) fun x3 => ?_
  exact zG_ret (r := some (zi x3.1)) rfl (zrd_i rfl (by decide +kernel))
theorem c_Mod_apply {l : Launch} {X : zX} (hl : l.stackTraces = false) {h : zH} {x : Int32 × zH} (hx : f_Mod_apply h = some x) : zCt l (true, 2) 2 m_Mod_apply X 0 0 [zr (some (11, 333))] h ((fun a => (.inl (some (zi a.1)), a.2) : Int32 × zH → zF) x) :=
  zG_ct (R := fun a => (.inl (some (zi a.1)), a.2)) (x := x) ok_Mod_apply hl (Nat.le_of_ble_eq_true rfl) hx (k_Mod_apply hl)
def m_Mod_defect : zM := (({ cls := "ScanPackerModel", name := "defect", desc := "(I)I" } : Jvm.MethodName), prog_13_method_94_code, 3, (Option.some Jvm.ClassFile.FieldType.int), [], 4)
theorem ok_Mod_defect : zMok m_Mod_defect := ⟨by decide +kernel, zW_of 1991 (by decide +kernel) (by decide +kernel), zW_of 134 (by decide +kernel) (by decide +kernel), by decide, by decide +kernel, by decide +kernel⟩
set_option maxRecDepth 20000 in
theorem k_Mod_defect_j24 {l : Launch} {X : zX} (hl : l.stackTraces = false) {h : zH} {v1 : Int32} : zGl l m_Mod_defect X 0 0 (f_Mod_defect_j24 h v1) (24, [some (zr (some (11, 333))), some (zi v1), none], [], h) (fun x => .inr ((fun a => (.inl (some (zi a.1)), a.2) : Int32 × zH → zF) x)) := by
  unfold f_Mod_defect_j24
  refine zG_run t_Mod [(.aload_n 0, 0, 0)] (25, [some (zr (some (11, 333))), some (zi v1), none], [zr (some (11, 333))], h) (by decide +kernel) rfl ?_
  refine zG_callV (idx := 428) (R := (fun a => (none, a))) (as := []) (rest := []) (n := 0) (fun a ha => c_Mod_keep hl ha) (by decide +kernel) ⟨ok_Mod_keep, by decide, by decide +kernel⟩ rfl w_558 w_559 w_560 (by decide) rfl rfl rfl (Nat.le_of_ble_eq_true rfl) fun x2 => ?_
  refine zG_run t_Mod [(.aload_n 0, 0, 0), (.getfield 74, 11, 14), (.iconst 2, 0, 0)] (33, [some (zr (some (11, 333))), some (zi v1), none], [zi 2, zr (some (73, 347))], x2) (by decide +kernel) rfl ?_
  refine zG_aldc (v := zi (x2.1 347 2)) rfl (by decide +kernel) (by decide +kernel) rfl ?_
  refine zG_run t_Mod [(.istore_n 2, 0, 0), (.aload_n 0, 0, 0), (.getfield 74, 11, 14), (.iconst 2, 0, 0), (.iload_n 1, 0, 0)] (41, [some (zr (some (11, 333))), some (zi v1), some (zi (x2.1 347 2))], [zi v1, zi 2, zr (some (73, 347))], x2) (by decide +kernel) rfl ?_
  refine zG_bind (fun y => (42, [some (zr (some (11, 333))), some (zi v1), some (zi (x2.1 347 2))], [], y)) (zG_astc (h' := zsI x2 347 2 v1) rfl (by decide +kernel) (by decide +kernel) rfl (zG_end (L' := [some (zr (some (11, 333))), some (zi v1), some (zi (x2.1 347 2))]) rfl (And.intro rfl (And.intro rfl (And.intro rfl trivial))))) fun h3 => ?_
  refine zG_run t_Mod [(.iload_n 2, 0, 0)] (43, [some (zr (some (11, 333))), some (zi v1), some (zi (x2.1 347 2))], [zi (x2.1 347 2)], h3) (by decide +kernel) rfl ?_
  exact zG_ret (r := some (zi (x2.1 347 2))) rfl (zrd_i rfl (by decide +kernel))
set_option maxRecDepth 20000 in
theorem k_Mod_defect {l : Launch} {X : zX} (hl : l.stackTraces = false) {h : zH} {v1 : Int32} : zGl l m_Mod_defect X 0 0 (f_Mod_defect h v1) (0, [some (zr (some (11, 333))), some (zi v1), none], [], h) (fun x => .inr ((fun a => (.inl (some (zi a.1)), a.2) : Int32 × zH → zF) x)) := by
  unfold f_Mod_defect
  refine zG_bind (fun y => (5, [some (zr (some (11, 333))), some (zi v1), none], [], y)) (zG_run t_Mod [(.aload_n 0, 0, 0), (.iconst 0, 0, 0), (.putfield 181, 11, 2)] (5, [some (zr (some (11, 333))), some (zi v1), none], [], zsI h 333 2 0) (by decide +kernel) rfl (zG_end (L' := [some (zr (some (11, 333))), some (zi v1), none]) rfl (And.intro rfl (And.intro rfl trivial)))) fun h1 => ?_
  refine zG_run t_Mod [(.iload_n 1, 0, 0), (.iconst (-1), 0, 0)] (7, [some (zr (some (11, 333))), some (zi v1), none], [zi (-1), zi v1], h1) (by decide +kernel) rfl ?_
  refine zG_icmp (op := .eq) (off := 17) (tgt := 24) (by decide +kernel) rfl Iff.rfl (fun c7 => ?_) (fun c7 => ?_)
  · exact zG_forget (L' := [some (zr (some (11, 333))), some (zi v1), none]) (And.intro rfl (And.intro rfl trivial)) (k_Mod_defect_j24 hl)
  · refine zG_run t_Mod [(.aload_n 0, 0, 0), (.iload_n 1, 0, 0)] (12, [some (zr (some (11, 333))), some (zi v1), none], [zi v1, zr (some (11, 333))], h1) (by decide +kernel) rfl ?_
    refine zG_callV (idx := 401) (R := (fun a => (some (zi a), h1))) (as := [zi v1]) (rest := []) (n := 1) (fun a ha => c_Mod_isFault hl ha) (by decide +kernel) ⟨ok_Mod_isFault, by decide, by decide +kernel⟩ rfl w_534 w_535 w_536 (by decide) rfl rfl rfl (Nat.le_of_ble_eq_true rfl) fun x4 => ?_
    refine zG_if (op := .ne) (off := 9) (tgt := 24) (by decide +kernel) rfl Iff.rfl (fun c6 => ?_) (fun c6 => ?_)
    · exact zG_forget (L' := [some (zr (some (11, 333))), some (zi v1), none]) (And.intro rfl (And.intro rfl trivial)) (k_Mod_defect_j24 hl)
    · refine zG_run t_Mod [(.aload_n 0, 0, 0), (.iconst 1, 0, 0)] (20, [some (zr (some (11, 333))), some (zi v1), none], [zi 1, zr (some (11, 333))], h1) (by decide +kernel) rfl ?_
      refine zG_callV (idx := 288) (R := (fun a => (some (zi a.1), a.2))) (as := [zi 1]) (rest := []) (n := 1) (fun a ha => c_Mod_fail hl ha) (by decide +kernel) ⟨ok_Mod_fail, by decide, by decide +kernel⟩ rfl w_378 w_379 w_380 (by decide) rfl rfl rfl (Nat.le_of_ble_eq_true rfl) fun x5 => ?_
      exact zG_ret (r := some (zi x5.1)) rfl (zrd_i rfl (by decide +kernel))
theorem c_Mod_defect {l : Launch} {X : zX} (hl : l.stackTraces = false) {h : zH} {v1 : Int32} {x : Int32 × zH} (hx : f_Mod_defect h v1 = some x) : zCt l (true, 2) 2 m_Mod_defect X 0 0 [zr (some (11, 333)), zi v1] h ((fun a => (.inl (some (zi a.1)), a.2) : Int32 × zH → zF) x) :=
  zG_ct (R := fun a => (.inl (some (zi a.1)), a.2)) (x := x) ok_Mod_defect hl (Nat.le_of_ble_eq_true rfl) hx (k_Mod_defect hl)
def m_Mod_fill : zM := (({ cls := "ScanPackerModel", name := "fill", desc := "(I)I" } : Jvm.MethodName), prog_13_method_95_code, 3, (Option.some Jvm.ClassFile.FieldType.int), [], 2)
theorem ok_Mod_fill : zMok m_Mod_fill := ⟨by decide +kernel, zW_of 1995 (by decide +kernel) (by decide +kernel), zW_of 134 (by decide +kernel) (by decide +kernel), by decide, by decide +kernel, by decide +kernel⟩
set_option maxRecDepth 20000 in
theorem k_Mod_fill {l : Launch} {X : zX} (hl : l.stackTraces = false) {h : zH} {v1 : Int32} : zGl l m_Mod_fill X 0 0 (f_Mod_fill h v1) (0, [some (zr (some (11, 333))), some (zi v1), none], [], h) (fun x => .inr ((fun a => (.inl (some (zi a.1)), a.2) : Int32 × zH → zF) x)) := by
  unfold f_Mod_fill
  refine zG_bind (fun y => (5, [some (zr (some (11, 333))), some (zi v1), none], [], y)) (zG_run t_Mod [(.aload_n 0, 0, 0), (.iconst 0, 0, 0), (.putfield 181, 11, 2)] (5, [some (zr (some (11, 333))), some (zi v1), none], [], zsI h 333 2 0) (by decide +kernel) rfl (zG_end (L' := [some (zr (some (11, 333))), some (zi v1), none]) rfl (And.intro rfl (And.intro rfl trivial)))) fun h1 => ?_
  refine zG_run t_Mod [(.iload_n 1, 0, 0), (.iconst 0, 0, 0), (.iconst 2, 0, 0)] (8, [some (zr (some (11, 333))), some (zi v1), none], [zi 2, zi 0, zi v1], h1) (by decide +kernel) rfl ?_
  refine zG_callS (idx := 391) (R := (fun a => (some (zi a), h1))) (as := [zi v1, zi 0, zi 2]) (rest := []) (n := 3) (fun a ha => c_Mod_isIn hl ha) (by decide +kernel) ⟨ok_Mod_isIn, by decide, by decide +kernel⟩ rfl w_526 w_527 rfl rfl (Nat.le_of_ble_eq_true rfl) fun x2 => ?_
  refine zG_if (op := .ne) (off := 9) (tgt := 20) (by decide +kernel) rfl Iff.rfl (fun c6 => ?_) (fun c6 => ?_)
  · refine zG_run t_Mod [(.aload_n 0, 0, 0)] (21, [some (zr (some (11, 333))), some (zi v1), none], [zr (some (11, 333))], h1) (by decide +kernel) rfl ?_
    refine zG_callV (idx := 428) (R := (fun a => (none, a))) (as := []) (rest := []) (n := 0) (fun a ha => c_Mod_keep hl ha) (by decide +kernel) ⟨ok_Mod_keep, by decide, by decide +kernel⟩ rfl w_558 w_559 w_560 (by decide) rfl rfl rfl (Nat.le_of_ble_eq_true rfl) fun x3 => ?_
    refine zG_run t_Mod [(.aload_n 0, 0, 0), (.getfield 74, 11, 14), (.iconst 3, 0, 0)] (29, [some (zr (some (11, 333))), some (zi v1), none], [zi 3, zr (some (73, 347))], x3) (by decide +kernel) rfl ?_
    refine zG_aldc (v := zi (x3.1 347 3)) rfl (by decide +kernel) (by decide +kernel) rfl ?_
    refine zG_run t_Mod [(.istore_n 2, 0, 0), (.aload_n 0, 0, 0), (.getfield 74, 11, 14), (.iconst 3, 0, 0), (.iload_n 1, 0, 0)] (37, [some (zr (some (11, 333))), some (zi v1), some (zi (x3.1 347 3))], [zi v1, zi 3, zr (some (73, 347))], x3) (by decide +kernel) rfl ?_
    refine zG_bind (fun y => (38, [some (zr (some (11, 333))), some (zi v1), some (zi (x3.1 347 3))], [], y)) (zG_astc (h' := zsI x3 347 3 v1) rfl (by decide +kernel) (by decide +kernel) rfl (zG_end (L' := [some (zr (some (11, 333))), some (zi v1), some (zi (x3.1 347 3))]) rfl (And.intro rfl (And.intro rfl (And.intro rfl trivial))))) fun h4 => ?_
    refine zG_run t_Mod [(.iload_n 2, 0, 0)] (39, [some (zr (some (11, 333))), some (zi v1), some (zi (x3.1 347 3))], [zi (x3.1 347 3)], h4) (by decide +kernel) rfl ?_
    exact zG_ret (r := some (zi (x3.1 347 3))) rfl (zrd_i rfl (by decide +kernel))
  · refine zG_run t_Mod [(.aload_n 0, 0, 0), (.iconst 1, 0, 0)] (16, [some (zr (some (11, 333))), some (zi v1), none], [zi 1, zr (some (11, 333))], h1) (by decide +kernel) rfl ?_
    refine zG_callV (idx := 425) (R := (fun a => (some (zi a.1), a.2))) (as := [zi 1]) (rest := []) (n := 1) (fun a ha => c_Mod_refuse hl ha) (by decide +kernel) ⟨ok_Mod_refuse, by decide, by decide +kernel⟩ rfl w_555 w_556 w_557 (by decide) rfl rfl rfl (Nat.le_of_ble_eq_true rfl) fun x5 => ?_
    exact zG_ret (r := some (zi x5.1)) rfl (zrd_i rfl (by decide +kernel))
theorem c_Mod_fill {l : Launch} {X : zX} (hl : l.stackTraces = false) {h : zH} {v1 : Int32} {x : Int32 × zH} (hx : f_Mod_fill h v1 = some x) : zCt l (true, 2) 2 m_Mod_fill X 0 0 [zr (some (11, 333)), zi v1] h ((fun a => (.inl (some (zi a.1)), a.2) : Int32 × zH → zF) x) :=
  zG_ct (R := fun a => (.inl (some (zi a.1)), a.2)) (x := x) ok_Mod_fill hl (Nat.le_of_ble_eq_true rfl) hx (k_Mod_fill hl)
def m_Mod_isPicked : zM := (({ cls := "ScanPackerModel", name := "isPicked", desc := "(I)Z" } : Jvm.MethodName), prog_13_method_96_code, 4, (Option.some Jvm.ClassFile.FieldType.boolean), [], 1)
theorem ok_Mod_isPicked : zMok m_Mod_isPicked := ⟨by decide +kernel, zW_of 2003 (by decide +kernel) (by decide +kernel), zW_of 134 (by decide +kernel) (by decide +kernel), by decide, by decide +kernel, by decide +kernel⟩
set_option maxRecDepth 20000 in
theorem k_Mod_isPicked_j35 {l : Launch} {X : zX} (hl : l.stackTraces = false) {h : zH} {v1 : Int32} {v3 : Int32} {t0 : Int32} : zGl l m_Mod_isPicked X 0 0 (f_Mod_isPicked_j35 h v1 v3 t0) (35, [some (zr (some (11, 333))), some (zi v1), none, some (zi v3)], [zi t0], h) (Sum.elim (fun s : Int32 × Int32 => .inl (4, [some (zr (some (11, 333))), some (zi v1), some (zi s.1), some (zi s.2)], [], h)) (fun y : Int32 => .inl (42, [none, none, some (zi y), none], [], h))) := by
  unfold f_Mod_isPicked_j35
  refine zG_run t_Mod [(.istore_n 2, 0, 0), (.iinc 3 1, 0, 0), (.goto (-35), 0, 0)] (4, [some (zr (some (11, 333))), some (zi v1), some (zi t0), some (zi (v3 + 1))], [], h) (by decide +kernel) rfl ?_
  exact zG_end (L' := [some (zr (some (11, 333))), some (zi v1), some (zi t0), some (zi (v3 + 1))]) rfl (And.intro rfl (And.intro rfl (And.intro rfl (And.intro rfl trivial))))
set_option maxRecDepth 20000 in
theorem k_Mod_isPicked_b4 {l : Launch} {X : zX} (hl : l.stackTraces = false) {h : zH} {v1 : Int32} {v2 : Int32} {v3 : Int32} : zGl l m_Mod_isPicked X 0 0 (f_Mod_isPicked_b4 h v1 v2 v3) (4, [some (zr (some (11, 333))), some (zi v1), some (zi v2), some (zi v3)], [], h) (Sum.elim (fun s : Int32 × Int32 => .inl (4, [some (zr (some (11, 333))), some (zi v1), some (zi s.1), some (zi s.2)], [], h)) (fun y : Int32 => .inl (42, [none, none, some (zi y), none], [], h))) := by
  unfold f_Mod_isPicked_b4
  refine zG_run t_Mod [(.iload_n 3, 0, 0), (.aload_n 0, 0, 0), (.getfield 74, 11, 14), (.iconst 4, 0, 0)] (10, [some (zr (some (11, 333))), some (zi v1), some (zi v2), some (zi v3)], [zi 4, zr (some (73, 347)), zi v3], h) (by decide +kernel) rfl ?_
  refine zG_aldc (v := zi (h.1 347 4)) rfl (by decide +kernel) (by decide +kernel) rfl ?_
  refine zG_icmp (op := .ge) (off := 31) (tgt := 42) (by decide +kernel) rfl Iff.rfl (fun c4 => ?_) (fun c4 => ?_)
  · exact zG_end (L' := [none, none, some (zi v2), none]) rfl (And.intro rfl trivial)
  · refine zG_run t_Mod [(.iload_n 2, 0, 0)] (15, [some (zr (some (11, 333))), some (zi v1), some (zi v2), some (zi v3)], [zi v2], h) (by decide +kernel) rfl ?_
    refine zG_if (op := .ne) (off := 15) (tgt := 30) (by decide +kernel) rfl Iff.rfl (fun c3 => ?_) (fun c3 => ?_)
    · refine zG_run t_Mod [(.iconst 1, 0, 0), (.goto 4, 0, 0)] (35, [some (zr (some (11, 333))), some (zi v1), some (zi v2), some (zi v3)], [zi 1], h) (by decide +kernel) rfl ?_
      exact zG_forget (L' := [some (zr (some (11, 333))), some (zi v1), none, some (zi v3)]) (And.intro rfl (And.intro rfl (And.intro rfl trivial))) (k_Mod_isPicked_j35 hl)
    · refine zG_run t_Mod [(.aload_n 0, 0, 0), (.getfield 74, 11, 14), (.iconst 5, 0, 0), (.iload_n 3, 0, 0), (.iadd, 0, 0)] (25, [some (zr (some (11, 333))), some (zi v1), some (zi v2), some (zi v3)], [zi (5 + v3), zr (some (73, 347))], h) (by decide +kernel) rfl ?_
      refine zG_ald (v := zi (h.1 347 (5 + v3).toNatClampNeg)) (n := 57) rfl (by decide +kernel) rfl rfl fun hb1 => ?_
      refine zG_run t_Mod [(.iload_n 1, 0, 0)] (27, [some (zr (some (11, 333))), some (zi v1), some (zi v2), some (zi v3)], [zi v1, zi (h.1 347 (5 + v3).toNatClampNeg)], h) (by decide +kernel) rfl ?_
      refine zG_icmp (op := .ne) (off := 7) (tgt := 34) (by decide +kernel) rfl Iff.rfl (fun c2 => ?_) (fun c2 => ?_)
      · refine zG_run t_Mod [(.iconst 0, 0, 0)] (35, [some (zr (some (11, 333))), some (zi v1), some (zi v2), some (zi v3)], [zi 0], h) (by decide +kernel) rfl ?_
        exact zG_forget (L' := [some (zr (some (11, 333))), some (zi v1), none, some (zi v3)]) (And.intro rfl (And.intro rfl (And.intro rfl trivial))) (k_Mod_isPicked_j35 hl)
      · refine zG_run t_Mod [(.iconst 1, 0, 0), (.goto 4, 0, 0)] (35, [some (zr (some (11, 333))), some (zi v1), some (zi v2), some (zi v3)], [zi 1], h) (by decide +kernel) rfl ?_
        exact zG_forget (L' := [some (zr (some (11, 333))), some (zi v1), none, some (zi v3)]) (And.intro rfl (And.intro rfl (And.intro rfl trivial))) (k_Mod_isPicked_j35 hl)
set_option maxRecDepth 20000 in
theorem k_Mod_isPicked {l : Launch} {X : zX} (hl : l.stackTraces = false) {h : zH} {v1 : Int32} : zGl l m_Mod_isPicked X 0 0 (f_Mod_isPicked h v1) (0, [some (zr (some (11, 333))), some (zi v1), none, none], [], h) (fun x => .inr ((fun a => (.inl (some (zi a)), h) : Int32 → zF) x)) := by
  unfold f_Mod_isPicked
  refine zG_run t_Mod [(.iconst 0, 0, 0), (.istore_n 2, 0, 0), (.iconst 0, 0, 0), (.istore_n 3, 0, 0)] (4, [some (zr (some (11, 333))), some (zi v1), some (zi 0), some (zi 0)], [], h) (by decide +kernel) rfl ?_
  refine zG_forget (L' := [some (zr (some (11, 333))), some (zi v1), some (zi 0), some (zi 0)]) (And.intro rfl (And.intro rfl (And.intro rfl (And.intro rfl trivial)))) ?_
  refine zG_bind (fun y : Int32 => (42, [none, none, some (zi y), none], [], h)) (zG_iter (fun s : Int32 × Int32 => (4, [some (zr (some (11, 333))), some (zi v1), some (zi s.1), some (zi s.2)], [], h)) fun s => k_Mod_isPicked_b4 hl) (fun y6 => ?_)
  refine zG_run t_Mod [(.iload_n 2, 0, 0)] (43, [none, none, some (zi y6), none], [zi y6], h) (by decide +kernel) rfl ?_
  refine zG_guard fun hb7 => ?_
  exact zG_ret (r := some (zi y6)) rfl (zrd_z rfl (by decide +kernel) hb7)
theorem c_Mod_isPicked {l : Launch} {X : zX} (hl : l.stackTraces = false) {h : zH} {v1 : Int32} {x : Int32} (hx : f_Mod_isPicked h v1 = some x) : zCt l (true, 2) 2 m_Mod_isPicked X 0 0 [zr (some (11, 333)), zi v1] h ((fun a => (.inl (some (zi a)), h) : Int32 → zF) x) :=
  zG_ct (R := fun a => (.inl (some (zi a)), h)) (x := x) ok_Mod_isPicked hl (Nat.le_of_ble_eq_true rfl) hx (k_Mod_isPicked hl)
def m_Mod_pick : zM := (({ cls := "ScanPackerModel", name := "pick", desc := "(I)I" } : Jvm.MethodName), prog_13_method_97_code, 2, (Option.some Jvm.ClassFile.FieldType.int), [], 4)
theorem ok_Mod_pick : zMok m_Mod_pick := ⟨by decide +kernel, zW_of 1999 (by decide +kernel) (by decide +kernel), zW_of 134 (by decide +kernel) (by decide +kernel), by decide, by decide +kernel, by decide +kernel⟩
set_option maxRecDepth 20000 in
theorem k_Mod_pick_j97 {l : Launch} {X : zX} (hl : l.stackTraces = false) {h : zH} {t0 : Int32} {t1 : Int32} : zGl l m_Mod_pick X 0 0 (f_Mod_pick_j97 h t0 t1) (97, [some (zr (some (11, 333))), none], [zi t0, zi t1, zr (some (73, 347))], h) (fun x => .inr ((fun a => (.inl (some (zi a.1)), a.2) : Int32 × zH → zF) x)) := by
  unfold f_Mod_pick_j97
  refine zG_guard fun hb4 => ?_
  refine zG_bind (fun y => (98, [some (zr (some (11, 333))), none], [], y)) (zG_astc (h' := zsI h 347 t1.toNatClampNeg t0) rfl (by decide +kernel) hb4 rfl (zG_end (L' := [some (zr (some (11, 333))), none]) rfl (And.intro rfl trivial))) fun h3 => ?_
  refine zG_run t_Mod [(.aload_n 0, 0, 0), (.getfield 74, 11, 14), (.iconst 4, 0, 0)] (103, [some (zr (some (11, 333))), none], [zi 4, zr (some (73, 347))], h3) (by decide +kernel) rfl ?_
  refine zG_aldc (v := zi (h3.1 347 4)) rfl (by decide +kernel) (by decide +kernel) rfl ?_
  exact zG_ret (r := some (zi (h3.1 347 4))) rfl (zrd_i rfl (by decide +kernel))
set_option maxRecDepth 20000 in
theorem k_Mod_pick_j75 {l : Launch} {X : zX} (hl : l.stackTraces = false) {h : zH} {v1 : Int32} : zGl l m_Mod_pick X 0 0 (f_Mod_pick_j75 h v1) (75, [some (zr (some (11, 333))), some (zi v1)], [], h) (fun x => .inr ((fun a => (.inl (some (zi a.1)), a.2) : Int32 × zH → zF) x)) := by
  unfold f_Mod_pick_j75
  refine zG_run t_Mod [(.aload_n 0, 0, 0), (.getfield 74, 11, 14), (.iconst 4, 0, 0), (.iload_n 1, 0, 0), (.iconst (-1), 0, 0)] (82, [some (zr (some (11, 333))), some (zi v1)], [zi (-1), zi v1, zi 4, zr (some (73, 347))], h) (by decide +kernel) rfl ?_
  refine zG_icmp (op := .ne) (off := 7) (tgt := 89) (by decide +kernel) rfl Iff.rfl (fun c5 => ?_) (fun c5 => ?_)
  · refine zG_run t_Mod [(.aload_n 0, 0, 0), (.getfield 74, 11, 14), (.iconst 4, 0, 0)] (94, [some (zr (some (11, 333))), some (zi v1)], [zi 4, zr (some (73, 347)), zi 4, zr (some (73, 347))], h) (by decide +kernel) rfl ?_
    refine zG_aldc (v := zi (h.1 347 4)) rfl (by decide +kernel) (by decide +kernel) rfl ?_
    refine zG_run t_Mod [(.iconst 1, 0, 0), (.iadd, 0, 0)] (97, [some (zr (some (11, 333))), some (zi v1)], [zi ((h.1 347 4) + 1), zi 4, zr (some (73, 347))], h) (by decide +kernel) rfl ?_
    exact zG_forget (L' := [some (zr (some (11, 333))), none]) (And.intro rfl trivial) (k_Mod_pick_j97 hl)
  · refine zG_run t_Mod [(.iconst 0, 0, 0), (.goto 11, 0, 0)] (97, [some (zr (some (11, 333))), some (zi v1)], [zi 0, zi 4, zr (some (73, 347))], h) (by decide +kernel) rfl ?_
    exact zG_forget (L' := [some (zr (some (11, 333))), none]) (And.intro rfl trivial) (k_Mod_pick_j97 hl)
set_option maxRecDepth 20000 in
theorem k_Mod_pick_j52 {l : Launch} {X : zX} (hl : l.stackTraces = false) {h : zH} {v1 : Int32} : zGl l m_Mod_pick X 0 0 (f_Mod_pick_j52 h v1) (52, [some (zr (some (11, 333))), some (zi v1)], [], h) (fun x => .inr ((fun a => (.inl (some (zi a.1)), a.2) : Int32 × zH → zF) x)) := by
  unfold f_Mod_pick_j52
  refine zG_run t_Mod [(.aload_n 0, 0, 0)] (53, [some (zr (some (11, 333))), some (zi v1)], [zr (some (11, 333))], h) (by decide +kernel) rfl ?_
  refine zG_callV (idx := 428) (R := (fun a => (none, a))) (as := []) (rest := []) (n := 0) (fun a ha => c_Mod_keep hl ha) (by decide +kernel) ⟨ok_Mod_keep, by decide, by decide +kernel⟩ rfl w_558 w_559 w_560 (by decide) rfl rfl rfl (Nat.le_of_ble_eq_true rfl) fun x2 => ?_
  refine zG_run t_Mod [(.iload_n 1, 0, 0), (.iconst (-1), 0, 0)] (58, [some (zr (some (11, 333))), some (zi v1)], [zi (-1), zi v1], x2) (by decide +kernel) rfl ?_
  refine zG_icmp (op := .eq) (off := 17) (tgt := 75) (by decide +kernel) rfl Iff.rfl (fun c8 => ?_) (fun c8 => ?_)
  · exact zG_forget (L' := [some (zr (some (11, 333))), some (zi v1)]) (And.intro rfl (And.intro rfl trivial)) (k_Mod_pick_j75 hl)
  · refine zG_run t_Mod [(.aload_n 0, 0, 0), (.getfield 74, 11, 14), (.iconst 5, 0, 0), (.aload_n 0, 0, 0), (.getfield 74, 11, 14), (.iconst 4, 0, 0)] (71, [some (zr (some (11, 333))), some (zi v1)], [zi 4, zr (some (73, 347)), zi 5, zr (some (73, 347))], x2) (by decide +kernel) rfl ?_
    refine zG_aldc (v := zi (x2.1 347 4)) rfl (by decide +kernel) (by decide +kernel) rfl ?_
    refine zG_run t_Mod [(.iadd, 0, 0), (.iload_n 1, 0, 0)] (74, [some (zr (some (11, 333))), some (zi v1)], [zi v1, zi (5 + (x2.1 347 4)), zr (some (73, 347))], x2) (by decide +kernel) rfl ?_
    refine zG_guard fun hb7 => ?_
    refine zG_bind (fun y => (75, [some (zr (some (11, 333))), some (zi v1)], [], y)) (zG_astc (h' := zsI x2 347 (5 + (x2.1 347 4)).toNatClampNeg v1) rfl (by decide +kernel) hb7 rfl (zG_end (L' := [some (zr (some (11, 333))), some (zi v1)]) rfl (And.intro rfl (And.intro rfl trivial)))) fun h6 => ?_
    exact zG_forget (L' := [some (zr (some (11, 333))), some (zi v1)]) (And.intro rfl (And.intro rfl trivial)) (k_Mod_pick_j75 hl)
set_option maxRecDepth 20000 in
theorem k_Mod_pick_j46 {l : Launch} {X : zX} (hl : l.stackTraces = false) {h : zH} : zGl l m_Mod_pick X 0 0 (f_Mod_pick_j46 h) (46, [some (zr (some (11, 333))), none], [], h) (fun x => .inr ((fun a => (.inl (some (zi a.1)), a.2) : Int32 × zH → zF) x)) := by
  unfold f_Mod_pick_j46
  refine zG_run t_Mod [(.aload_n 0, 0, 0), (.iconst 1, 0, 0)] (48, [some (zr (some (11, 333))), none], [zi 1, zr (some (11, 333))], h) (by decide +kernel) rfl ?_
  refine zG_callV (idx := 425) (R := (fun a => (some (zi a.1), a.2))) (as := [zi 1]) (rest := []) (n := 1) (fun a ha => c_Mod_refuse hl ha) (by decide +kernel) ⟨ok_Mod_refuse, by decide, by decide +kernel⟩ rfl w_555 w_556 w_557 (by decide) rfl rfl rfl (Nat.le_of_ble_eq_true rfl) fun x10 => ?_
  exact zG_ret (r := some (zi x10.1)) rfl (zrd_i rfl (by decide +kernel))
set_option maxRecDepth 20000 in
theorem k_Mod_pick {l : Launch} {X : zX} (hl : l.stackTraces = false) {h : zH} {v1 : Int32} : zGl l m_Mod_pick X 0 0 (f_Mod_pick h v1) (0, [some (zr (some (11, 333))), some (zi v1)], [], h) (fun x => .inr ((fun a => (.inl (some (zi a.1)), a.2) : Int32 × zH → zF) x)) := by
  unfold f_Mod_pick
  refine zG_bind (fun y => (5, [some (zr (some (11, 333))), some (zi v1)], [], y)) (zG_run t_Mod [(.aload_n 0, 0, 0), (.iconst 0, 0, 0), (.putfield 181, 11, 2)] (5, [some (zr (some (11, 333))), some (zi v1)], [], zsI h 333 2 0) (by decide +kernel) rfl (zG_end (L' := [some (zr (some (11, 333))), some (zi v1)]) rfl (And.intro rfl (And.intro rfl trivial)))) fun h1 => ?_
  refine zG_run t_Mod [(.iload_n 1, 0, 0), (.iconst (-1), 0, 0)] (7, [some (zr (some (11, 333))), some (zi v1)], [zi (-1), zi v1], h1) (by decide +kernel) rfl ?_
  refine zG_icmp (op := .eq) (off := 45) (tgt := 52) (by decide +kernel) rfl Iff.rfl (fun c17 => ?_) (fun c17 => ?_)
  · exact zG_forget (L' := [some (zr (some (11, 333))), some (zi v1)]) (And.intro rfl (And.intro rfl trivial)) (k_Mod_pick_j52 hl)
  · refine zG_run t_Mod [(.aload_n 0, 0, 0), (.iload_n 1, 0, 0)] (12, [some (zr (some (11, 333))), some (zi v1)], [zi v1, zr (some (11, 333))], h1) (by decide +kernel) rfl ?_
    refine zG_callV (idx := 401) (R := (fun a => (some (zi a), h1))) (as := [zi v1]) (rest := []) (n := 1) (fun a ha => c_Mod_isFault hl ha) (by decide +kernel) ⟨ok_Mod_isFault, by decide, by decide +kernel⟩ rfl w_534 w_535 w_536 (by decide) rfl rfl rfl (Nat.le_of_ble_eq_true rfl) fun x9 => ?_
    refine zG_if (op := .eq) (off := 31) (tgt := 46) (by decide +kernel) rfl Iff.rfl (fun c16 => ?_) (fun c16 => ?_)
    · exact zG_forget (L' := [some (zr (some (11, 333))), none]) (And.intro rfl trivial) (k_Mod_pick_j46 hl)
    · refine zG_run t_Mod [(.aload_n 0, 0, 0), (.getfield 109, 11, 34), (.iload_n 1, 0, 0)] (23, [some (zr (some (11, 333))), some (zi v1)], [zi v1, zr (some (83, 357))], h1) (by decide +kernel) rfl ?_
      refine zG_ald (v := zi (h1.1 357 v1.toNatClampNeg)) (n := 44) rfl (by decide +kernel) rfl rfl fun hb11 => ?_
      refine zG_if (op := .gt) (off := 22) (tgt := 46) (by decide +kernel) rfl Iff.rfl (fun c15 => ?_) (fun c15 => ?_)
      · exact zG_forget (L' := [some (zr (some (11, 333))), none]) (And.intro rfl trivial) (k_Mod_pick_j46 hl)
      · refine zG_run t_Mod [(.aload_n 0, 0, 0), (.iload_n 1, 0, 0)] (29, [some (zr (some (11, 333))), some (zi v1)], [zi v1, zr (some (11, 333))], h1) (by decide +kernel) rfl ?_
        refine zG_callV (idx := 458) (R := (fun a => (some (zi a), h1))) (as := [zi v1]) (rest := []) (n := 1) (fun a ha => c_Mod_isPicked hl ha) (by decide +kernel) ⟨ok_Mod_isPicked, by decide, by decide +kernel⟩ rfl w_583 w_584 w_585 (by decide) rfl rfl rfl (Nat.le_of_ble_eq_true rfl) fun x12 => ?_
        refine zG_if (op := .ne) (off := 14) (tgt := 46) (by decide +kernel) rfl Iff.rfl (fun c14 => ?_) (fun c14 => ?_)
        · exact zG_forget (L' := [some (zr (some (11, 333))), none]) (And.intro rfl trivial) (k_Mod_pick_j46 hl)
        · refine zG_run t_Mod [(.aload_n 0, 0, 0), (.getfield 74, 11, 14), (.iconst 4, 0, 0)] (40, [some (zr (some (11, 333))), some (zi v1)], [zi 4, zr (some (73, 347))], h1) (by decide +kernel) rfl ?_
          refine zG_aldc (v := zi (h1.1 347 4)) rfl (by decide +kernel) (by decide +kernel) rfl ?_
          refine zG_run t_Mod [(.bipush 8, 0, 0)] (43, [some (zr (some (11, 333))), some (zi v1)], [zi 8, zi (h1.1 347 4)], h1) (by decide +kernel) rfl ?_
          refine zG_icmp (op := .ne) (off := 9) (tgt := 52) (by decide +kernel) rfl Iff.rfl (fun c13 => ?_) (fun c13 => ?_)
          · exact zG_forget (L' := [some (zr (some (11, 333))), some (zi v1)]) (And.intro rfl (And.intro rfl trivial)) (k_Mod_pick_j52 hl)
          · exact zG_forget (L' := [some (zr (some (11, 333))), none]) (And.intro rfl trivial) (k_Mod_pick_j46 hl)
theorem c_Mod_pick {l : Launch} {X : zX} (hl : l.stackTraces = false) {h : zH} {v1 : Int32} {x : Int32 × zH} (hx : f_Mod_pick h v1 = some x) : zCt l (true, 2) 2 m_Mod_pick X 0 0 [zr (some (11, 333)), zi v1] h ((fun a => (.inl (some (zi a.1)), a.2) : Int32 × zH → zF) x) :=
  zG_ct (R := fun a => (.inl (some (zi a.1)), a.2)) (x := x) ok_Mod_pick hl (Nat.le_of_ble_eq_true rfl) hx (k_Mod_pick hl)
def m_Mod_undo : zM := (({ cls := "ScanPackerModel", name := "undo", desc := "()I" } : Jvm.MethodName), prog_13_method_98_code, 2, (Option.some Jvm.ClassFile.FieldType.int), [], 1)
theorem ok_Mod_undo : zMok m_Mod_undo := ⟨by decide +kernel, zW_of 2007 (by decide +kernel) (by decide +kernel), zW_of 134 (by decide +kernel) (by decide +kernel), by decide, by decide +kernel, by decide +kernel⟩
set_option maxRecDepth 20000 in
theorem k_Mod_undo_b26 {l : Launch} {X : zX} (hl : l.stackTraces = false) {h : zH} {v1 : Int32} : zGl l m_Mod_undo X 0 0 (f_Mod_undo_b26 h v1) (26, [some (zr (some (11, 333))), some (zi v1)], [], h) (Sum.elim (fun s : Int32 × zH => .inl (26, [some (zr (some (11, 333))), some (zi s.1)], [], s.2)) (fun y : zH => .inl (58, [some (zr (some (11, 333))), none], [], y))) := by
  unfold f_Mod_undo_b26
  refine zG_run t_Mod [(.iload_n 1, 0, 0), (.bipush 57, 0, 0)] (29, [some (zr (some (11, 333))), some (zi v1)], [zi 57, zi v1], h) (by decide +kernel) rfl ?_
  refine zG_icmp (op := .ge) (off := 29) (tgt := 58) (by decide +kernel) rfl Iff.rfl (fun c6 => ?_) (fun c6 => ?_)
  · exact zG_end (L' := [some (zr (some (11, 333))), none]) rfl (And.intro rfl trivial)
  · refine zG_run t_Mod [(.aload_n 0, 0, 0), (.getfield 74, 11, 14), (.iload_n 1, 0, 0), (.aload_n 0, 0, 0), (.getfield 139, 11, 46), (.bipush 57, 0, 0), (.aload_n 0, 0, 0), (.getfield 301, 11, 45), (.imul, 0, 0), (.iload_n 1, 0, 0), (.iadd, 0, 0)] (50, [some (zr (some (11, 333))), some (zi v1)], [zi ((57 * (h.1 333 45)) + v1), zr (some (93, 367)), zi v1, zr (some (73, 347))], h) (by decide +kernel) rfl ?_
    refine zG_ald (v := zi (h.1 367 ((57 * (h.1 333 45)) + v1).toNatClampNeg)) (n := 2280) rfl (by decide +kernel) rfl rfl fun hb3 => ?_
    refine zG_guard fun hb5 => ?_
    refine zG_bind (fun y => (52, [some (zr (some (11, 333))), some (zi v1)], [], y)) (zG_astc (h' := zsI h 347 v1.toNatClampNeg (h.1 367 ((57 * (h.1 333 45)) + v1).toNatClampNeg)) rfl (by decide +kernel) hb5 rfl (zG_end (L' := [some (zr (some (11, 333))), some (zi v1)]) rfl (And.intro rfl (And.intro rfl trivial)))) fun h4 => ?_
    refine zG_run t_Mod [(.iinc 1 1, 0, 0), (.goto (-29), 0, 0)] (26, [some (zr (some (11, 333))), some (zi (v1 + 1))], [], h4) (by decide +kernel) rfl ?_
    exact zG_end (L' := [some (zr (some (11, 333))), some (zi (v1 + 1))]) rfl (And.intro rfl (And.intro rfl trivial))
set_option maxRecDepth 20000 in
theorem k_Mod_undo {l : Launch} {X : zX} (hl : l.stackTraces = false) {h : zH} : zGl l m_Mod_undo X 0 0 (f_Mod_undo h) (0, [some (zr (some (11, 333))), none], [], h) (fun x => .inr ((fun a => (.inl (some (zi a.1)), a.2) : Int32 × zH → zF) x)) := by
  unfold f_Mod_undo
  refine zG_bind (fun y => (5, [some (zr (some (11, 333))), none], [], y)) (zG_run t_Mod [(.aload_n 0, 0, 0), (.iconst 0, 0, 0), (.putfield 181, 11, 2)] (5, [some (zr (some (11, 333))), none], [], zsI h 333 2 0) (by decide +kernel) rfl (zG_end (L' := [some (zr (some (11, 333))), none]) rfl (And.intro rfl trivial))) fun h1 => ?_
  refine zG_run t_Mod [(.aload_n 0, 0, 0), (.getfield 301, 11, 45)] (9, [some (zr (some (11, 333))), none], [zi (h1.1 333 45)], h1) (by decide +kernel) rfl ?_
  refine zG_if (op := .ne) (off := 5) (tgt := 14) (by decide +kernel) rfl Iff.rfl (fun c9 => ?_) (fun c9 => ?_)
  · refine zG_bind (fun y => (24, [some (zr (some (11, 333))), none], [], y)) (zG_run t_Mod [(.aload_n 0, 0, 0), (.dup, 0, 0), (.getfield 301, 11, 45), (.iconst 1, 0, 0), (.isub, 0, 0), (.putfield 301, 11, 45)] (24, [some (zr (some (11, 333))), none], [], zsI h1 333 45 ((h1.1 333 45) - 1)) (by decide +kernel) rfl (zG_end (L' := [some (zr (some (11, 333))), none]) rfl (And.intro rfl trivial))) fun h2 => ?_
    refine zG_run t_Mod [(.iconst 0, 0, 0), (.istore_n 1, 0, 0)] (26, [some (zr (some (11, 333))), some (zi 0)], [], h2) (by decide +kernel) rfl ?_
    refine zG_forget (L' := [some (zr (some (11, 333))), some (zi 0)]) (And.intro rfl (And.intro rfl trivial)) ?_
    refine zG_bind (fun y : zH => (58, [some (zr (some (11, 333))), none], [], y)) (zG_iter (fun s : Int32 × zH => (26, [some (zr (some (11, 333))), some (zi s.1)], [], s.2)) fun s => k_Mod_undo_b26 hl) (fun y8 => ?_)
    refine zG_run t_Mod [(.aload_n 0, 0, 0), (.getfield 301, 11, 45)] (62, [some (zr (some (11, 333))), none], [zi (y8.1 333 45)], y8) (by decide +kernel) rfl ?_
    exact zG_ret (r := some (zi (y8.1 333 45))) rfl (zrd_i rfl (by decide +kernel))
  · refine zG_run t_Mod [(.iconst (-1), 0, 0)] (13, [some (zr (some (11, 333))), none], [zi (-1)], h1) (by decide +kernel) rfl ?_
    exact zG_ret (r := some (zi (-1))) rfl (zrd_i rfl (by decide +kernel))
theorem c_Mod_undo {l : Launch} {X : zX} (hl : l.stackTraces = false) {h : zH} {x : Int32 × zH} (hx : f_Mod_undo h = some x) : zCt l (true, 2) 2 m_Mod_undo X 0 0 [zr (some (11, 333))] h ((fun a => (.inl (some (zi a.1)), a.2) : Int32 × zH → zF) x) :=
  zG_ct (R := fun a => (.inl (some (zi a.1)), a.2)) (x := x) ok_Mod_undo hl (Nat.le_of_ble_eq_true rfl) hx (k_Mod_undo hl)
def m_Mod_note : zM := (({ cls := "ScanPackerModel", name := "note", desc := "(III)I" } : Jvm.MethodName), prog_13_method_99_code, 4, (Option.some Jvm.ClassFile.FieldType.int), [], 3)
theorem ok_Mod_note : zMok m_Mod_note := ⟨by decide +kernel, zW_of 2011 (by decide +kernel) (by decide +kernel), zW_of 134 (by decide +kernel) (by decide +kernel), by decide, by decide +kernel, by decide +kernel⟩
set_option maxRecDepth 20000 in
theorem k_Mod_note_j53 {l : Launch} {X : zX} (hl : l.stackTraces = false) {h : zH} : zGl l m_Mod_note X 0 0 (f_Mod_note_j53 h) (53, [some (zr (some (11, 333))), none, none, none], [], h) (fun x => .inr ((fun a => (.inl (some (zi a.1)), a.2) : Int32 × zH → zF) x)) := by
  unfold f_Mod_note_j53
  refine zG_run t_Mod [(.aload_n 0, 0, 0), (.iconst 2, 0, 0)] (55, [some (zr (some (11, 333))), none, none, none], [zi 2, zr (some (11, 333))], h) (by decide +kernel) rfl ?_
  refine zG_callV (idx := 425) (R := (fun a => (some (zi a.1), a.2))) (as := [zi 2]) (rest := []) (n := 1) (fun a ha => c_Mod_refuse hl ha) (by decide +kernel) ⟨ok_Mod_refuse, by decide, by decide +kernel⟩ rfl w_555 w_556 w_557 (by decide) rfl rfl rfl (Nat.le_of_ble_eq_true rfl) fun x2 => ?_
  exact zG_ret (r := some (zi x2.1)) rfl (zrd_i rfl (by decide +kernel))
set_option maxRecDepth 20000 in
theorem k_Mod_note {l : Launch} {X : zX} (hl : l.stackTraces = false) {h : zH} {v1 : Int32} {v2 : Int32} {v3 : Int32} : zGl l m_Mod_note X 0 0 (f_Mod_note h v1 v2 v3) (0, [some (zr (some (11, 333))), some (zi v1), some (zi v2), some (zi v3)], [], h) (fun x => .inr ((fun a => (.inl (some (zi a.1)), a.2) : Int32 × zH → zF) x)) := by
  unfold f_Mod_note
  refine zG_bind (fun y => (5, [some (zr (some (11, 333))), some (zi v1), some (zi v2), some (zi v3)], [], y)) (zG_run t_Mod [(.aload_n 0, 0, 0), (.iconst 0, 0, 0), (.putfield 181, 11, 2)] (5, [some (zr (some (11, 333))), some (zi v1), some (zi v2), some (zi v3)], [], zsI h 333 2 0) (by decide +kernel) rfl (zG_end (L' := [some (zr (some (11, 333))), some (zi v1), some (zi v2), some (zi v3)]) rfl (And.intro rfl (And.intro rfl (And.intro rfl (And.intro rfl trivial)))))) fun h1 => ?_
  refine zG_run t_Mod [(.aload_n 0, 0, 0), (.getfield 304, 11, 47), (.bipush 10, 0, 0)] (11, [some (zr (some (11, 333))), some (zi v1), some (zi v2), some (zi v3)], [zi 10, zi (h1.1 333 47)], h1) (by decide +kernel) rfl ?_
  refine zG_icmp (op := .eq) (off := 42) (tgt := 53) (by decide +kernel) rfl Iff.rfl (fun c19 => ?_) (fun c19 => ?_)
  · exact zG_forget (L' := [some (zr (some (11, 333))), none, none, none]) (And.intro rfl trivial) (k_Mod_note_j53 hl)
  · refine zG_run t_Mod [(.iload_n 1, 0, 0), (.iconst 0, 0, 0), (.aload_n 0, 0, 0)] (17, [some (zr (some (11, 333))), some (zi v1), some (zi v2), some (zi v3)], [zr (some (11, 333)), zi 0, zi v1], h1) (by decide +kernel) rfl ?_
    refine zG_callV (idx := 323) (R := (fun a => (some (zi a), h1))) (as := []) (rest := [zi 0, zi v1]) (n := 0) (fun a ha => c_Mod_rows hl ha) (by decide +kernel) ⟨ok_Mod_rows, by decide, by decide +kernel⟩ rfl w_449 w_450 w_451 (by decide) rfl rfl rfl (Nat.le_of_ble_eq_true rfl) fun x3 => ?_
    refine zG_run t_Mod [(.iconst 1, 0, 0), (.isub, 0, 0)] (22, [some (zr (some (11, 333))), some (zi v1), some (zi v2), some (zi v3)], [zi (x3 - 1), zi 0, zi v1], h1) (by decide +kernel) rfl ?_
    refine zG_callS (idx := 391) (R := (fun a => (some (zi a), h1))) (as := [zi v1, zi 0, zi (x3 - 1)]) (rest := []) (n := 3) (fun a ha => c_Mod_isIn hl ha) (by decide +kernel) ⟨ok_Mod_isIn, by decide, by decide +kernel⟩ rfl w_526 w_527 rfl rfl (Nat.le_of_ble_eq_true rfl) fun x4 => ?_
    refine zG_if (op := .eq) (off := 28) (tgt := 53) (by decide +kernel) rfl Iff.rfl (fun c18 => ?_) (fun c18 => ?_)
    · exact zG_forget (L' := [some (zr (some (11, 333))), none, none, none]) (And.intro rfl trivial) (k_Mod_note_j53 hl)
    · refine zG_run t_Mod [(.aload_n 0, 0, 0), (.iload_n 2, 0, 0)] (30, [some (zr (some (11, 333))), some (zi v1), some (zi v2), some (zi v3)], [zi v2, zr (some (11, 333))], h1) (by decide +kernel) rfl ?_
      refine zG_callV (idx := 395) (R := (fun a => (some (zi a), h1))) (as := [zi v2]) (rest := []) (n := 1) (fun a ha => c_Mod_isLine hl ha) (by decide +kernel) ⟨ok_Mod_isLine, by decide, by decide +kernel⟩ rfl w_528 w_529 w_530 (by decide) rfl rfl rfl (Nat.le_of_ble_eq_true rfl) fun x5 => ?_
      refine zG_if (op := .eq) (off := 20) (tgt := 53) (by decide +kernel) rfl Iff.rfl (fun c17 => ?_) (fun c17 => ?_)
      · exact zG_forget (L' := [some (zr (some (11, 333))), none, none, none]) (And.intro rfl trivial) (k_Mod_note_j53 hl)
      · refine zG_run t_Mod [(.aload_n 0, 0, 0), (.iload_n 2, 0, 0)] (38, [some (zr (some (11, 333))), some (zi v1), some (zi v2), some (zi v3)], [zi v2, zr (some (11, 333))], h1) (by decide +kernel) rfl ?_
        refine zG_callV (idx := 320) (R := (fun a => (some (zi a), h1))) (as := [zi v2]) (rest := []) (n := 1) (fun a ha => c_Mod_isSeen hl ha) (by decide +kernel) ⟨ok_Mod_isSeen, by decide, by decide +kernel⟩ rfl w_470 w_471 w_472 (by decide) rfl rfl rfl (Nat.le_of_ble_eq_true rfl) fun x6 => ?_
        refine zG_if (op := .eq) (off := 12) (tgt := 53) (by decide +kernel) rfl Iff.rfl (fun c16 => ?_) (fun c16 => ?_)
        · exact zG_forget (L' := [some (zr (some (11, 333))), none, none, none]) (And.intro rfl trivial) (k_Mod_note_j53 hl)
        · refine zG_run t_Mod [(.iload_n 3, 0, 0), (.iconst 0, 0, 0), (.iconst 1, 0, 0)] (47, [some (zr (some (11, 333))), some (zi v1), some (zi v2), some (zi v3)], [zi 1, zi 0, zi v3], h1) (by decide +kernel) rfl ?_
          refine zG_callS (idx := 391) (R := (fun a => (some (zi a), h1))) (as := [zi v3, zi 0, zi 1]) (rest := []) (n := 3) (fun a ha => c_Mod_isIn hl ha) (by decide +kernel) ⟨ok_Mod_isIn, by decide, by decide +kernel⟩ rfl w_526 w_527 rfl rfl (Nat.le_of_ble_eq_true rfl) fun x7 => ?_
          refine zG_if (op := .ne) (off := 9) (tgt := 59) (by decide +kernel) rfl Iff.rfl (fun c15 => ?_) (fun c15 => ?_)
          · refine zG_run t_Mod [(.aload_n 0, 0, 0), (.getfield 142, 11, 48), (.aload_n 0, 0, 0), (.getfield 304, 11, 47), (.iload_n 1, 0, 0)] (68, [some (zr (some (11, 333))), some (zi v1), some (zi v2), some (zi v3)], [zi v1, zi (h1.1 333 47), zr (some (94, 368))], h1) (by decide +kernel) rfl ?_
            refine zG_guard fun hb9 => ?_
            refine zG_bind (fun y => (69, [some (zr (some (11, 333))), some (zi v1), some (zi v2), some (zi v3)], [], y)) (zG_astc (h' := zsI h1 368 (h1.1 333 47).toNatClampNeg v1) rfl (by decide +kernel) hb9 rfl (zG_end (L' := [some (zr (some (11, 333))), some (zi v1), some (zi v2), some (zi v3)]) rfl (And.intro rfl (And.intro rfl (And.intro rfl (And.intro rfl trivial)))))) fun h8 => ?_
            refine zG_run t_Mod [(.aload_n 0, 0, 0), (.getfield 145, 11, 49), (.aload_n 0, 0, 0), (.getfield 304, 11, 47), (.iload_n 2, 0, 0)] (78, [some (zr (some (11, 333))), some (zi v1), some (zi v2), some (zi v3)], [zi v2, zi (h8.1 333 47), zr (some (95, 369))], h8) (by decide +kernel) rfl ?_
            refine zG_guard fun hb11 => ?_
            refine zG_bind (fun y => (79, [some (zr (some (11, 333))), some (zi v1), some (zi v2), some (zi v3)], [], y)) (zG_astc (h' := zsI h8 369 (h8.1 333 47).toNatClampNeg v2) rfl (by decide +kernel) hb11 rfl (zG_end (L' := [some (zr (some (11, 333))), some (zi v1), some (zi v2), some (zi v3)]) rfl (And.intro rfl (And.intro rfl (And.intro rfl (And.intro rfl trivial)))))) fun h10 => ?_
            refine zG_run t_Mod [(.aload_n 0, 0, 0), (.getfield 148, 11, 50), (.aload_n 0, 0, 0), (.getfield 304, 11, 47), (.iload_n 3, 0, 0)] (88, [some (zr (some (11, 333))), some (zi v1), some (zi v2), some (zi v3)], [zi v3, zi (h10.1 333 47), zr (some (96, 370))], h10) (by decide +kernel) rfl ?_
            refine zG_guard fun hb13 => ?_
            refine zG_bind (fun y => (89, [some (zr (some (11, 333))), some (zi v1), some (zi v2), some (zi v3)], [], y)) (zG_astc (h' := zsI h10 370 (h10.1 333 47).toNatClampNeg v3) rfl (by decide +kernel) hb13 rfl (zG_end (L' := [some (zr (some (11, 333))), some (zi v1), some (zi v2), some (zi v3)]) rfl (And.intro rfl (And.intro rfl (And.intro rfl (And.intro rfl trivial)))))) fun h12 => ?_
            refine zG_bind (fun y => (99, [some (zr (some (11, 333))), some (zi v1), some (zi v2), some (zi v3)], [], y)) (zG_run t_Mod [(.aload_n 0, 0, 0), (.dup, 0, 0), (.getfield 304, 11, 47), (.iconst 1, 0, 0), (.iadd, 0, 0), (.putfield 304, 11, 47)] (99, [some (zr (some (11, 333))), some (zi v1), some (zi v2), some (zi v3)], [], zsI h12 333 47 ((h12.1 333 47) + 1)) (by decide +kernel) rfl (zG_end (L' := [some (zr (some (11, 333))), some (zi v1), some (zi v2), some (zi v3)]) rfl (And.intro rfl (And.intro rfl (And.intro rfl (And.intro rfl trivial)))))) fun h14 => ?_
            refine zG_run t_Mod [(.aload_n 0, 0, 0), (.getfield 304, 11, 47)] (103, [some (zr (some (11, 333))), some (zi v1), some (zi v2), some (zi v3)], [zi (h14.1 333 47)], h14) (by decide +kernel) rfl ?_
            exact zG_ret (r := some (zi (h14.1 333 47))) rfl (zrd_i rfl (by decide +kernel))
          · exact zG_forget (L' := [some (zr (some (11, 333))), none, none, none]) (And.intro rfl trivial) (k_Mod_note_j53 hl)
theorem c_Mod_note {l : Launch} {X : zX} (hl : l.stackTraces = false) {h : zH} {v1 : Int32} {v2 : Int32} {v3 : Int32} {x : Int32 × zH} (hx : f_Mod_note h v1 v2 v3 = some x) : zCt l (true, 2) 2 m_Mod_note X 0 0 [zr (some (11, 333)), zi v1, zi v2, zi v3] h ((fun a => (.inl (some (zi a.1)), a.2) : Int32 × zH → zF) x) :=
  zG_ct (R := fun a => (.inl (some (zi a.1)), a.2)) (x := x) ok_Mod_note hl (Nat.le_of_ble_eq_true rfl) hx (k_Mod_note hl)
def m_Mod_forget : zM := (({ cls := "ScanPackerModel", name := "forget", desc := "()V" } : Jvm.MethodName), prog_13_method_100_code, 1, (Option.none : Option Jvm.ClassFile.FieldType), [], 1)
theorem ok_Mod_forget : zMok m_Mod_forget := ⟨by decide +kernel, zW_of 2015 (by decide +kernel) (by decide +kernel), zW_of 134 (by decide +kernel) (by decide +kernel), by decide, by decide +kernel, by decide +kernel⟩
set_option maxRecDepth 20000 in
theorem k_Mod_forget {l : Launch} {X : zX} (hl : l.stackTraces = false) {h : zH} : zGl l m_Mod_forget X 0 0 (f_Mod_forget h) (0, [some (zr (some (11, 333)))], [], h) (fun x => .inr ((fun a => (.inl none, a) : zH → zF) x)) := by
  unfold f_Mod_forget
  refine zG_bind (fun y => (5, [some (zr (some (11, 333)))], [], y)) (zG_run t_Mod [(.aload_n 0, 0, 0), (.iconst 0, 0, 0), (.putfield 181, 11, 2)] (5, [some (zr (some (11, 333)))], [], zsI h 333 2 0) (by decide +kernel) rfl (zG_end (L' := [some (zr (some (11, 333)))]) rfl (And.intro rfl trivial))) fun h1 => ?_
  refine zG_bind (fun y => (10, [some (zr (some (11, 333)))], [], y)) (zG_run t_Mod [(.aload_n 0, 0, 0), (.iconst 0, 0, 0), (.putfield 304, 11, 47)] (10, [some (zr (some (11, 333)))], [], zsI h1 333 47 0) (by decide +kernel) rfl (zG_end (L' := [some (zr (some (11, 333)))]) rfl (And.intro rfl trivial))) fun h2 => ?_
  exact zG_ret (r := none) rfl (zrd_v rfl (by decide +kernel))
theorem c_Mod_forget {l : Launch} {X : zX} (hl : l.stackTraces = false) {h : zH} {x : zH} (hx : f_Mod_forget h = some x) : zCt l (true, 2) 2 m_Mod_forget X 0 0 [zr (some (11, 333))] h ((fun a => (.inl none, a) : zH → zF) x) :=
  zG_ct (R := fun a => (.inl none, a)) (x := x) ok_Mod_forget hl (Nat.le_of_ble_eq_true rfl) hx (k_Mod_forget hl)
def m_Mod_doesFit : zM := (({ cls := "ScanPackerModel", name := "doesFit", desc := "(I)Z" } : Jvm.MethodName), prog_13_method_101_code, 4, (Option.some Jvm.ClassFile.FieldType.boolean), [], 3)
theorem ok_Mod_doesFit : zMok m_Mod_doesFit := ⟨by decide +kernel, zW_of 2023 (by decide +kernel) (by decide +kernel), zW_of 134 (by decide +kernel) (by decide +kernel), by decide, by decide +kernel, by decide +kernel⟩
set_option maxRecDepth 20000 in
theorem k_Mod_doesFit_j56 {l : Launch} {X : zX} (hl : l.stackTraces = false) {h : zH} {v1 : Int32} {v3 : Int32} {t0 : Int32} : zGl l m_Mod_doesFit X 0 0 (f_Mod_doesFit_j56 h v1 v3 t0) (56, [some (zr (some (11, 333))), some (zi v1), none, some (zi v3)], [zi t0], h) (Sum.elim (fun s : Int32 × Int32 × zH => .inl (4, [some (zr (some (11, 333))), some (zi v1), some (zi s.1), some (zi s.2.1)], [], s.2.2)) (fun y : Int32 × zH => .inl (63, [none, none, some (zi y.1), none], [], y.2))) := by
  unfold f_Mod_doesFit_j56
  refine zG_run t_Mod [(.istore_n 2, 0, 0), (.iinc 3 1, 0, 0), (.goto (-56), 0, 0)] (4, [some (zr (some (11, 333))), some (zi v1), some (zi t0), some (zi (v3 + 1))], [], h) (by decide +kernel) rfl ?_
  exact zG_end (L' := [some (zr (some (11, 333))), some (zi v1), some (zi t0), some (zi (v3 + 1))]) rfl (And.intro rfl (And.intro rfl (And.intro rfl (And.intro rfl trivial))))
set_option maxRecDepth 20000 in
theorem k_Mod_doesFit_b4 {l : Launch} {X : zX} (hl : l.stackTraces = false) {h : zH} {v1 : Int32} {v2 : Int32} {v3 : Int32} : zGl l m_Mod_doesFit X 0 0 (f_Mod_doesFit_b4 h v1 v2 v3) (4, [some (zr (some (11, 333))), some (zi v1), some (zi v2), some (zi v3)], [], h) (Sum.elim (fun s : Int32 × Int32 × zH => .inl (4, [some (zr (some (11, 333))), some (zi v1), some (zi s.1), some (zi s.2.1)], [], s.2.2)) (fun y : Int32 × zH => .inl (63, [none, none, some (zi y.1), none], [], y.2))) := by
  unfold f_Mod_doesFit_b4
  refine zG_run t_Mod [(.iload_n 3, 0, 0), (.aload_n 0, 0, 0), (.getfield 304, 11, 47)] (9, [some (zr (some (11, 333))), some (zi v1), some (zi v2), some (zi v3)], [zi (h.1 333 47), zi v3], h) (by decide +kernel) rfl ?_
  refine zG_icmp (op := .ge) (off := 54) (tgt := 63) (by decide +kernel) rfl Iff.rfl (fun c9 => ?_) (fun c9 => ?_)
  · exact zG_end (L' := [none, none, some (zi v2), none]) rfl (And.intro rfl trivial)
  · refine zG_run t_Mod [(.aload_n 0, 0, 0), (.aload_n 0, 0, 0), (.getfield 142, 11, 48), (.iload_n 3, 0, 0)] (18, [some (zr (some (11, 333))), some (zi v1), some (zi v2), some (zi v3)], [zi v3, zr (some (94, 368)), zr (some (11, 333))], h) (by decide +kernel) rfl ?_
    refine zG_ald (v := zi (h.1 368 v3.toNatClampNeg)) (n := 10) rfl (by decide +kernel) rfl rfl fun hb1 => ?_
    refine zG_callV (idx := 326) (R := (fun a => (none, a))) (as := [zi (h.1 368 v3.toNatClampNeg)]) (rest := []) (n := 1) (fun a ha => c_Mod_putRow hl ha) (by decide +kernel) ⟨ok_Mod_putRow, by decide, by decide +kernel⟩ rfl w_452 w_453 w_454 (by decide) rfl rfl rfl (Nat.le_of_ble_eq_true rfl) fun x2 => ?_
    refine zG_run t_Mod [(.aload_n 0, 0, 0), (.iload_n 1, 0, 0)] (24, [some (zr (some (11, 333))), some (zi v1), some (zi v2), some (zi v3)], [zi v1, zr (some (11, 333))], x2) (by decide +kernel) rfl ?_
    refine zG_callV (idx := 317) (R := (fun a => (none, a))) (as := [zi v1]) (rest := []) (n := 1) (fun a ha => c_Mod_tellLines hl ha) (by decide +kernel) ⟨ok_Mod_tellLines, by decide, by decide +kernel⟩ rfl w_461 w_462 w_463 (by decide) rfl rfl rfl (Nat.le_of_ble_eq_true rfl) fun x3 => ?_
    refine zG_run t_Mod [(.iload_n 2, 0, 0)] (28, [some (zr (some (11, 333))), some (zi v1), some (zi v2), some (zi v3)], [zi v2], x3) (by decide +kernel) rfl ?_
    refine zG_if (op := .eq) (off := 27) (tgt := 55) (by decide +kernel) rfl Iff.rfl (fun c8 => ?_) (fun c8 => ?_)
    · refine zG_run t_Mod [(.iconst 0, 0, 0)] (56, [some (zr (some (11, 333))), some (zi v1), some (zi v2), some (zi v3)], [zi 0], x3) (by decide +kernel) rfl ?_
      exact zG_forget (L' := [some (zr (some (11, 333))), some (zi v1), none, some (zi v3)]) (And.intro rfl (And.intro rfl (And.intro rfl trivial))) (k_Mod_doesFit_j56 hl)
    · refine zG_run t_Mod [(.aload_n 0, 0, 0), (.getfield 90, 11, 28), (.aload_n 0, 0, 0), (.getfield 145, 11, 49), (.iload_n 3, 0, 0)] (40, [some (zr (some (11, 333))), some (zi v1), some (zi v2), some (zi v3)], [zi v3, zr (some (95, 369)), zr (some (77, 351))], x3) (by decide +kernel) rfl ?_
      refine zG_ald (v := zi (x3.1 369 v3.toNatClampNeg)) (n := 10) rfl (by decide +kernel) rfl rfl fun hb4 => ?_
      refine zG_ald (v := zi (x3.1 351 (x3.1 369 v3.toNatClampNeg).toNatClampNeg)) (n := 22) rfl (by decide +kernel) rfl rfl fun hb5 => ?_
      refine zG_run t_Mod [(.aload_n 0, 0, 0), (.getfield 148, 11, 50), (.iload_n 3, 0, 0)] (47, [some (zr (some (11, 333))), some (zi v1), some (zi v2), some (zi v3)], [zi v3, zr (some (96, 370)), zi (x3.1 351 (x3.1 369 v3.toNatClampNeg).toNatClampNeg)], x3) (by decide +kernel) rfl ?_
      refine zG_ald (v := zi (x3.1 370 v3.toNatClampNeg)) (n := 10) rfl (by decide +kernel) rfl rfl fun hb6 => ?_
      refine zG_icmp (op := .ne) (off := 7) (tgt := 55) (by decide +kernel) rfl Iff.rfl (fun c7 => ?_) (fun c7 => ?_)
      · refine zG_run t_Mod [(.iconst 0, 0, 0)] (56, [some (zr (some (11, 333))), some (zi v1), some (zi v2), some (zi v3)], [zi 0], x3) (by decide +kernel) rfl ?_
        exact zG_forget (L' := [some (zr (some (11, 333))), some (zi v1), none, some (zi v3)]) (And.intro rfl (And.intro rfl (And.intro rfl trivial))) (k_Mod_doesFit_j56 hl)
      · refine zG_run t_Mod [(.iconst 1, 0, 0), (.goto 4, 0, 0)] (56, [some (zr (some (11, 333))), some (zi v1), some (zi v2), some (zi v3)], [zi 1], x3) (by decide +kernel) rfl ?_
        exact zG_forget (L' := [some (zr (some (11, 333))), some (zi v1), none, some (zi v3)]) (And.intro rfl (And.intro rfl (And.intro rfl trivial))) (k_Mod_doesFit_j56 hl)
set_option maxRecDepth 20000 in
theorem k_Mod_doesFit {l : Launch} {X : zX} (hl : l.stackTraces = false) {h : zH} {v1 : Int32} : zGl l m_Mod_doesFit X 0 0 (f_Mod_doesFit h v1) (0, [some (zr (some (11, 333))), some (zi v1), none, none], [], h) (fun x => .inr ((fun a => (.inl (some (zi a.1)), a.2) : Int32 × zH → zF) x)) := by
  unfold f_Mod_doesFit
  refine zG_run t_Mod [(.iconst 1, 0, 0), (.istore_n 2, 0, 0), (.iconst 0, 0, 0), (.istore_n 3, 0, 0)] (4, [some (zr (some (11, 333))), some (zi v1), some (zi 1), some (zi 0)], [], h) (by decide +kernel) rfl ?_
  refine zG_forget (L' := [some (zr (some (11, 333))), some (zi v1), some (zi 1), some (zi 0)]) (And.intro rfl (And.intro rfl (And.intro rfl (And.intro rfl trivial)))) ?_
  refine zG_bind (fun y : Int32 × zH => (63, [none, none, some (zi y.1), none], [], y.2)) (zG_iter (fun s : Int32 × Int32 × zH => (4, [some (zr (some (11, 333))), some (zi v1), some (zi s.1), some (zi s.2.1)], [], s.2.2)) fun s => k_Mod_doesFit_b4 hl) (fun y11 => ?_)
  refine zG_run t_Mod [(.iload_n 2, 0, 0)] (64, [none, none, some (zi y11.1), none], [zi y11.1], y11.2) (by decide +kernel) rfl ?_
  refine zG_guard fun hb12 => ?_
  exact zG_ret (r := some (zi y11.1)) rfl (zrd_z rfl (by decide +kernel) hb12)
theorem c_Mod_doesFit {l : Launch} {X : zX} (hl : l.stackTraces = false) {h : zH} {v1 : Int32} {x : Int32 × zH} (hx : f_Mod_doesFit h v1 = some x) : zCt l (true, 2) 2 m_Mod_doesFit X 0 0 [zr (some (11, 333)), zi v1] h ((fun a => (.inl (some (zi a.1)), a.2) : Int32 × zH → zF) x) :=
  zG_ct (R := fun a => (.inl (some (zi a.1)), a.2)) (x := x) ok_Mod_doesFit hl (Nat.le_of_ble_eq_true rfl) hx (k_Mod_doesFit hl)
def m_Mod_fits : zM := (({ cls := "ScanPackerModel", name := "fits", desc := "(I)I" } : Jvm.MethodName), prog_13_method_102_code, 4, (Option.some Jvm.ClassFile.FieldType.int), [], 4)
theorem ok_Mod_fits : zMok m_Mod_fits := ⟨by decide +kernel, zW_of 2019 (by decide +kernel) (by decide +kernel), zW_of 134 (by decide +kernel) (by decide +kernel), by decide, by decide +kernel, by decide +kernel⟩
set_option maxRecDepth 20000 in
theorem k_Mod_fits_b29 {l : Launch} {X : zX} (hl : l.stackTraces = false) {h : zH} {v1 : Int32} {v2 : Int32} {v3 : Int32} : zGl l m_Mod_fits X 0 0 (f_Mod_fits_b29 h v1 v2 v3) (29, [some (zr (some (11, 333))), some (zi v1), some (zi v2), some (zi v3)], [], h) (Sum.elim (fun s : Int32 × Int32 × zH => .inl (29, [some (zr (some (11, 333))), some (zi v1), some (zi s.1), some (zi s.2.1)], [], s.2.2)) (Sum.elim (fun y : Int32 × zH => .inl (53, [none, none, none, some (zi y.1)], [], y.2)) (fun y : Int32 × zH => .inl (64, [some (zr (some (11, 333))), some (zi v1), some (zi y.1), none], [], y.2)))) := by
  unfold f_Mod_fits_b29
  refine zG_run t_Mod [(.iload_n 3, 0, 0), (.aload_n 0, 0, 0)] (31, [some (zr (some (11, 333))), some (zi v1), some (zi v2), some (zi v3)], [zr (some (11, 333)), zi v3], h) (by decide +kernel) rfl ?_
  refine zG_callV (idx := 332) (R := (fun a => (some (zi a), h))) (as := []) (rest := [zi v3]) (n := 0) (fun a ha => c_Mod_faults hl ha) (by decide +kernel) ⟨ok_Mod_faults, by decide, by decide +kernel⟩ rfl w_467 w_468 w_469 (by decide) rfl rfl rfl (Nat.le_of_ble_eq_true rfl) fun x2 => ?_
  refine zG_icmp (op := .ge) (off := 30) (tgt := 64) (by decide +kernel) rfl Iff.rfl (fun c6 => ?_) (fun c6 => ?_)
  · exact zG_end (L' := [some (zr (some (11, 333))), some (zi v1), some (zi v2), none]) rfl (And.intro rfl (And.intro rfl (And.intro rfl trivial)))
  · refine zG_run t_Mod [(.aload_n 0, 0, 0), (.iload_n 3, 0, 0)] (39, [some (zr (some (11, 333))), some (zi v1), some (zi v2), some (zi v3)], [zi v3, zr (some (11, 333))], h) (by decide +kernel) rfl ?_
    refine zG_callV (idx := 461) (R := (fun a => (some (zi a.1), a.2))) (as := [zi v3]) (rest := []) (n := 1) (fun a ha => c_Mod_doesFit hl ha) (by decide +kernel) ⟨ok_Mod_doesFit, by decide, by decide +kernel⟩ rfl w_586 w_587 w_588 (by decide) rfl rfl rfl (Nat.le_of_ble_eq_true rfl) fun x3 => ?_
    refine zG_if (op := .ne) (off := 6) (tgt := 48) (by decide +kernel) rfl Iff.rfl (fun c5 => ?_) (fun c5 => ?_)
    · refine zG_run t_Mod [(.iload_n 2, 0, 0), (.iload_n 1, 0, 0)] (50, [some (zr (some (11, 333))), some (zi v1), some (zi v2), some (zi v3)], [zi v1, zi v2], x3.2) (by decide +kernel) rfl ?_
      refine zG_icmp (op := .ne) (off := 5) (tgt := 55) (by decide +kernel) rfl Iff.rfl (fun c4 => ?_) (fun c4 => ?_)
      · refine zG_run t_Mod [(.iinc 2 1, 0, 0), (.iinc 3 1, 0, 0), (.goto (-32), 0, 0)] (29, [some (zr (some (11, 333))), some (zi v1), some (zi (v2 + 1)), some (zi (v3 + 1))], [], x3.2) (by decide +kernel) rfl ?_
        exact zG_end (L' := [some (zr (some (11, 333))), some (zi v1), some (zi (v2 + 1)), some (zi (v3 + 1))]) rfl (And.intro rfl (And.intro rfl (And.intro rfl (And.intro rfl trivial))))
      · exact zG_end (L' := [none, none, none, some (zi v3)]) rfl (And.intro rfl trivial)
    · refine zG_run t_Mod [(.goto 13, 0, 0), (.iinc 3 1, 0, 0), (.goto (-32), 0, 0)] (29, [some (zr (some (11, 333))), some (zi v1), some (zi v2), some (zi (v3 + 1))], [], x3.2) (by decide +kernel) rfl ?_
      exact zG_end (L' := [some (zr (some (11, 333))), some (zi v1), some (zi v2), some (zi (v3 + 1))]) rfl (And.intro rfl (And.intro rfl (And.intro rfl (And.intro rfl trivial))))
set_option maxRecDepth 20000 in
theorem k_Mod_fits {l : Launch} {X : zX} (hl : l.stackTraces = false) {h : zH} {v1 : Int32} : zGl l m_Mod_fits X 0 0 (f_Mod_fits h v1) (0, [some (zr (some (11, 333))), some (zi v1), none, none], [], h) (fun x => .inr ((fun a => (.inl (some (zi a.1)), a.2) : Int32 × zH → zF) x)) := by
  unfold f_Mod_fits
  refine zG_bind (fun y => (5, [some (zr (some (11, 333))), some (zi v1), none, none], [], y)) (zG_run t_Mod [(.aload_n 0, 0, 0), (.iconst 0, 0, 0), (.putfield 181, 11, 2)] (5, [some (zr (some (11, 333))), some (zi v1), none, none], [], zsI h 333 2 0) (by decide +kernel) rfl (zG_end (L' := [some (zr (some (11, 333))), some (zi v1), none, none]) rfl (And.intro rfl (And.intro rfl trivial)))) fun h1 => ?_
  refine zG_run t_Mod [(.iload_n 1, 0, 0), (.bipush (-2), 0, 0)] (8, [some (zr (some (11, 333))), some (zi v1), none, none], [zi (-2), zi v1], h1) (by decide +kernel) rfl ?_
  refine zG_icmp (op := .ne) (off := 17) (tgt := 25) (by decide +kernel) rfl Iff.rfl (fun c14 => ?_) (fun c14 => ?_)
  · refine zG_run t_Mod [(.iconst 0, 0, 0), (.istore_n 2, 0, 0), (.iconst 0, 0, 0), (.istore_n 3, 0, 0)] (29, [some (zr (some (11, 333))), some (zi v1), some (zi 0), some (zi 0)], [], h1) (by decide +kernel) rfl ?_
    refine zG_forget (L' := [some (zr (some (11, 333))), some (zi v1), some (zi 0), some (zi 0)]) (And.intro rfl (And.intro rfl (And.intro rfl (And.intro rfl trivial)))) ?_
    refine zG_bind2 (fun y : Int32 × zH => (53, [none, none, none, some (zi y.1)], [], y.2)) (fun y : Int32 × zH => (64, [some (zr (some (11, 333))), some (zi v1), some (zi y.1), none], [], y.2)) (zG_iter (fun s : Int32 × Int32 × zH => (29, [some (zr (some (11, 333))), some (zi v1), some (zi s.1), some (zi s.2.1)], [], s.2.2)) fun s => k_Mod_fits_b29 hl) (fun y8 => ?_) (fun y9 => ?_)
    · refine zG_run t_Mod [(.iload_n 3, 0, 0)] (54, [none, none, none, some (zi y8.1)], [zi y8.1], y8.2) (by decide +kernel) rfl ?_
      exact zG_ret (r := some (zi y8.1)) rfl (zrd_i rfl (by decide +kernel))
    · refine zG_run t_Mod [(.iload_n 1, 0, 0), (.iconst (-1), 0, 0)] (66, [some (zr (some (11, 333))), some (zi v1), some (zi y9.1), none], [zi (-1), zi v1], y9.2) (by decide +kernel) rfl ?_
      refine zG_icmp (op := .ne) (off := 7) (tgt := 73) (by decide +kernel) rfl Iff.rfl (fun c11 => ?_) (fun c11 => ?_)
      · refine zG_run t_Mod [(.aload_n 0, 0, 0), (.iconst 1, 0, 0)] (75, [some (zr (some (11, 333))), some (zi v1), some (zi y9.1), none], [zi 1, zr (some (11, 333))], y9.2) (by decide +kernel) rfl ?_
        refine zG_callV (idx := 288) (R := (fun a => (some (zi a.1), a.2))) (as := [zi 1]) (rest := []) (n := 1) (fun a ha => c_Mod_fail hl ha) (by decide +kernel) ⟨ok_Mod_fail, by decide, by decide +kernel⟩ rfl w_378 w_379 w_380 (by decide) rfl rfl rfl (Nat.le_of_ble_eq_true rfl) fun x10 => ?_
        exact zG_ret (r := some (zi x10.1)) rfl (zrd_i rfl (by decide +kernel))
      · refine zG_run t_Mod [(.iload_n 2, 0, 0), (.goto 8, 0, 0)] (78, [some (zr (some (11, 333))), some (zi v1), some (zi y9.1), none], [zi y9.1], y9.2) (by decide +kernel) rfl ?_
        exact zG_ret (r := some (zi y9.1)) rfl (zrd_i rfl (by decide +kernel))
  · refine zG_run t_Mod [(.aload_n 0, 0, 0), (.iconst (-1), 0, 0)] (13, [some (zr (some (11, 333))), some (zi v1), none, none], [zi (-1), zr (some (11, 333))], h1) (by decide +kernel) rfl ?_
    refine zG_callV (idx := 461) (R := (fun a => (some (zi a.1), a.2))) (as := [zi (-1)]) (rest := []) (n := 1) (fun a ha => c_Mod_doesFit hl ha) (by decide +kernel) ⟨ok_Mod_doesFit, by decide, by decide +kernel⟩ rfl w_586 w_587 w_588 (by decide) rfl rfl rfl (Nat.le_of_ble_eq_true rfl) fun x12 => ?_
    refine zG_if (op := .eq) (off := 7) (tgt := 23) (by decide +kernel) rfl Iff.rfl (fun c13 => ?_) (fun c13 => ?_)
    · refine zG_run t_Mod [(.iconst 0, 0, 0)] (24, [some (zr (some (11, 333))), some (zi v1), none, none], [zi 0], x12.2) (by decide +kernel) rfl ?_
      exact zG_ret (r := some (zi 0)) rfl (zrd_i rfl (by decide +kernel))
    · refine zG_run t_Mod [(.iconst 1, 0, 0), (.goto 4, 0, 0)] (24, [some (zr (some (11, 333))), some (zi v1), none, none], [zi 1], x12.2) (by decide +kernel) rfl ?_
      exact zG_ret (r := some (zi 1)) rfl (zrd_i rfl (by decide +kernel))
theorem c_Mod_fits {l : Launch} {X : zX} (hl : l.stackTraces = false) {h : zH} {v1 : Int32} {x : Int32 × zH} (hx : f_Mod_fits h v1 = some x) : zCt l (true, 2) 2 m_Mod_fits X 0 0 [zr (some (11, 333)), zi v1] h ((fun a => (.inl (some (zi a.1)), a.2) : Int32 × zH → zF) x) :=
  zG_ct (R := fun a => (.inl (some (zi a.1)), a.2)) (x := x) ok_Mod_fits hl (Nat.le_of_ble_eq_true rfl) hx (k_Mod_fits hl)
