/-! methods, by wip/whole/gen.py -/
def m_Diagnosis_seekRow : zM := (({ cls := "ScanPacker$Diagnosis", name := "seekRow", desc := "(LScanPacker$Net;LScanPacker$Catalog;)V" } : Jvm.MethodName), prog_3_method_4_code, 4, (Option.none : Option Jvm.ClassFile.FieldType), [], 5)
theorem ok_Diagnosis_seekRow : zMok m_Diagnosis_seekRow := ⟨by decide +kernel, zW_of 1323 (by decide +kernel) (by decide +kernel), zW_of 130 (by decide +kernel) (by decide +kernel), by decide, by decide +kernel, by decide +kernel⟩
set_option maxRecDepth 20000 in
theorem k_Diagnosis_seekRow_b18 {l : Launch} {X : zX} (hl : l.stackTraces = false) {o1 : Nat} {h : zH} {v3 : Int32} : zGl l m_Diagnosis_seekRow X 0 0 (f_Diagnosis_seekRow_b18 o1 h v3) (18, [some (zr (some (2, 152))), none, some (zr (some (1, 74))), some (zi v3)], [], h) (Sum.elim (fun s : Int32 × zH => .inl (18, [some (zr (some (2, 152))), none, some (zr (some (1, 74))), some (zi s.1)], [], s.2)) (fun y : zH => .inl (60, [none, none, none, none], [], y))) := by
  unfold f_Diagnosis_seekRow_b18
  refine zG_run t_Diagnosis [(.iload_n 3, 0, 0), (.aload_n 2, 0, 0), (.getfield 63, 1, 1)] (23, [some (zr (some (2, 152))), none, some (zr (some (1, 74))), some (zi v3)], [zi (h.1 74 1), zi v3], h) (by decide +kernel) rfl ?_
  refine zG_icmp (op := .ge) (off := 37) (tgt := 60) (by decide +kernel) rfl Iff.rfl (fun c9 => ?_) (fun c9 => ?_)
  · exact zG_end (L' := [none, none, none, none]) rfl (trivial)
  · refine zG_run t_Diagnosis [(.aload_n 0, 0, 0), (.getfield 15, 2, 5), (.iload_n 3, 0, 0)] (31, [some (zr (some (2, 152))), none, some (zr (some (1, 74))), some (zi v3)], [zi v3, zr (some (53, 154))], h) (by decide +kernel) rfl ?_
    refine zG_ald (v := zi (h.1 154 v3.toNatClampNeg)) (n := 64) rfl (by decide +kernel) rfl rfl fun hb4 => ?_
    refine zG_run t_Diagnosis [(.aload_n 0, 0, 0), (.getfield 60, 2, 4)] (36, [some (zr (some (2, 152))), none, some (zr (some (1, 74))), some (zi v3)], [zi (h.1 152 4), zi (h.1 154 v3.toNatClampNeg)], h) (by decide +kernel) rfl ?_
    refine zG_icmp (op := .le) (off := 18) (tgt := 54) (by decide +kernel) rfl Iff.rfl (fun c8 => ?_) (fun c8 => ?_)
    · refine zG_run t_Diagnosis [(.iinc 3 1, 0, 0), (.goto (-39), 0, 0)] (18, [some (zr (some (2, 152))), none, some (zr (some (1, 74))), some (zi (v3 + 1))], [], h) (by decide +kernel) rfl ?_
      exact zG_end (L' := [some (zr (some (2, 152))), none, some (zr (some (1, 74))), some (zi (v3 + 1))]) rfl (And.intro rfl (And.intro rfl (And.intro rfl trivial)))
    · refine zG_bind (fun y => (44, [some (zr (some (2, 152))), none, some (zr (some (1, 74))), some (zi v3)], [], y)) (zG_run t_Diagnosis [(.aload_n 0, 0, 0), (.iload_n 3, 0, 0), (.putfield 57, 2, 3)] (44, [some (zr (some (2, 152))), none, some (zr (some (1, 74))), some (zi v3)], [], zsI h 152 3 v3) (by decide +kernel) rfl (zG_end (L' := [some (zr (some (2, 152))), none, some (zr (some (1, 74))), some (zi v3)]) rfl (And.intro rfl (And.intro rfl (And.intro rfl trivial))))) fun h5 => ?_
      refine zG_run t_Diagnosis [(.aload_n 0, 0, 0), (.aload_n 0, 0, 0), (.getfield 15, 2, 5), (.iload_n 3, 0, 0)] (50, [some (zr (some (2, 152))), none, some (zr (some (1, 74))), some (zi v3)], [zi v3, zr (some (53, 154)), zr (some (2, 152))], h5) (by decide +kernel) rfl ?_
      refine zG_ald (v := zi (h5.1 154 v3.toNatClampNeg)) (n := 64) rfl (by decide +kernel) rfl rfl fun hb6 => ?_
      refine zG_bind (fun y => (54, [some (zr (some (2, 152))), none, some (zr (some (1, 74))), some (zi v3)], [], y)) (zG_run t_Diagnosis [(.putfield 60, 2, 4)] (54, [some (zr (some (2, 152))), none, some (zr (some (1, 74))), some (zi v3)], [], zsI h5 152 4 (h5.1 154 v3.toNatClampNeg)) (by decide +kernel) rfl (zG_end (L' := [some (zr (some (2, 152))), none, some (zr (some (1, 74))), some (zi v3)]) rfl (And.intro rfl (And.intro rfl (And.intro rfl trivial))))) fun h7 => ?_
      refine zG_run t_Diagnosis [(.iinc 3 1, 0, 0), (.goto (-39), 0, 0)] (18, [some (zr (some (2, 152))), none, some (zr (some (1, 74))), some (zi (v3 + 1))], [], h7) (by decide +kernel) rfl ?_
      exact zG_end (L' := [some (zr (some (2, 152))), none, some (zr (some (1, 74))), some (zi (v3 + 1))]) rfl (And.intro rfl (And.intro rfl (And.intro rfl trivial)))
set_option maxRecDepth 20000 in
theorem k_Diagnosis_seekRow {l : Launch} {X : zX} (hl : l.stackTraces = false) {o1 : Nat} {h : zH} : zGl l m_Diagnosis_seekRow X 0 0 (f_Diagnosis_seekRow o1 h) (0, [some (zr (some (2, 152))), some (zr (some (3, o1))), some (zr (some (1, 74))), none], [], h) (fun x => .inr ((fun a => (.inl none, a) : zH → zF) x)) := by
  unfold f_Diagnosis_seekRow
  refine zG_run t_Diagnosis [(.aload_n 0, 0, 0), (.aload_n 1, 0, 0), (.aload_n 2, 0, 0)] (3, [some (zr (some (2, 152))), some (zr (some (3, o1))), some (zr (some (1, 74))), none], [zr (some (1, 74)), zr (some (3, o1)), zr (some (2, 152))], h) (by decide +kernel) rfl ?_
  refine zG_callV (idx := 53) (R := (fun a => (none, a))) (as := [zr (some (3, o1)), zr (some (1, 74))]) (rest := []) (n := 2) (fun a ha => c_Diagnosis_countUnlike hl ha) (by decide +kernel) ⟨ok_Diagnosis_countUnlike, by decide, by decide +kernel⟩ rfl w_356 w_357 w_358 (by decide) rfl rfl rfl (Nat.le_of_ble_eq_true rfl) fun x1 => ?_
  refine zG_bind (fun y => (11, [some (zr (some (2, 152))), some (zr (some (3, o1))), some (zr (some (1, 74))), none], [], y)) (zG_run t_Diagnosis [(.aload_n 0, 0, 0), (.iconst (-1), 0, 0), (.putfield 57, 2, 3)] (11, [some (zr (some (2, 152))), some (zr (some (3, o1))), some (zr (some (1, 74))), none], [], zsI x1 152 3 (-1)) (by decide +kernel) rfl (zG_end (L' := [some (zr (some (2, 152))), some (zr (some (3, o1))), some (zr (some (1, 74))), none]) rfl (And.intro rfl (And.intro rfl (And.intro rfl trivial))))) fun h2 => ?_
  refine zG_bind (fun y => (16, [some (zr (some (2, 152))), some (zr (some (3, o1))), some (zr (some (1, 74))), none], [], y)) (zG_run t_Diagnosis [(.aload_n 0, 0, 0), (.iconst 0, 0, 0), (.putfield 60, 2, 4)] (16, [some (zr (some (2, 152))), some (zr (some (3, o1))), some (zr (some (1, 74))), none], [], zsI h2 152 4 0) (by decide +kernel) rfl (zG_end (L' := [some (zr (some (2, 152))), some (zr (some (3, o1))), some (zr (some (1, 74))), none]) rfl (And.intro rfl (And.intro rfl (And.intro rfl trivial))))) fun h3 => ?_
  refine zG_run t_Diagnosis [(.iconst 0, 0, 0), (.istore_n 3, 0, 0)] (18, [some (zr (some (2, 152))), some (zr (some (3, o1))), some (zr (some (1, 74))), some (zi 0)], [], h3) (by decide +kernel) rfl ?_
  refine zG_forget (L' := [some (zr (some (2, 152))), none, some (zr (some (1, 74))), some (zi 0)]) (And.intro rfl (And.intro rfl (And.intro rfl trivial))) ?_
  refine zG_bind (fun y : zH => (60, [none, none, none, none], [], y)) (zG_iter (fun s : Int32 × zH => (18, [some (zr (some (2, 152))), none, some (zr (some (1, 74))), some (zi s.1)], [], s.2)) fun s => k_Diagnosis_seekRow_b18 hl) (fun y11 => ?_)
  exact zG_ret (r := none) rfl (zrd_v rfl (by decide +kernel))
theorem c_Diagnosis_seekRow {l : Launch} {X : zX} (hl : l.stackTraces = false) {o1 : Nat} {h : zH} {x : zH} (hx : f_Diagnosis_seekRow o1 h = some x) : zCt l (true, 2) 2 m_Diagnosis_seekRow X 0 0 [zr (some (2, 152)), zr (some (3, o1)), zr (some (1, 74))] h ((fun a => (.inl none, a) : zH → zF) x) :=
  zG_ct (R := fun a => (.inl none, a)) (x := x) ok_Diagnosis_seekRow hl (Nat.le_of_ble_eq_true rfl) hx (k_Diagnosis_seekRow hl)
def m_Main_look : zM := (({ cls := "ScanPacker", name := "look", desc := "(I)I" } : Jvm.MethodName), prog_1_method_27_code, 2, (Option.some Jvm.ClassFile.FieldType.int), [], 6)
theorem ok_Main_look : zMok m_Main_look := ⟨by decide +kernel, zW_of 1319 (by decide +kernel) (by decide +kernel), zW_of 122 (by decide +kernel) (by decide +kernel), by decide, by decide +kernel, by decide +kernel⟩
set_option maxRecDepth 20000 in
theorem k_Main_look_j17 {l : Launch} {X : zX} (hl : l.stackTraces = false) {h : zH} {v1 : Int32} : zGl l m_Main_look X 0 0 (f_Main_look_j17 h v1) (17, [some (zr (some (0, 0))), some (zi v1)], [], h) (fun x => .inr ((Sum.elim (fun a => (.inl (some (zi a.1)), a.2)) (fun q => (.inr q.1, q.2)) : (Int32 × zH) ⊕ (Nat × zH) → zF) x)) := by
  unfold f_Main_look_j17
  refine zG_run t_Main [(.aload_n 0, 0, 0), (.getfield 51, 0, 6), (.aload_n 0, 0, 0), (.getfield 30, 0, 3), (.aload_n 0, 0, 0), (.getfield 58, 0, 7)] (29, [some (zr (some (0, 0))), some (zi v1)], [zr (some (7, 155)), zr (some (1, 74)), zr (some (2, 152))], h) (by decide +kernel) rfl ?_
  refine zG_callV (idx := 322) (R := (fun a => (none, a))) (as := [zr (some (1, 74)), zr (some (7, 155))]) (rest := []) (n := 2) (fun a ha => c_Diagnosis_gather hl ha) (by decide +kernel) ⟨ok_Diagnosis_gather, by decide, by decide +kernel⟩ rfl w_351 w_352 w_353 (by decide) rfl rfl rfl (Nat.le_of_ble_eq_true rfl) fun x1 => ?_
  refine zG_run t_Main [(.aload_n 0, 0, 0), (.getfield 51, 0, 6), (.aload_n 0, 0, 0), (.getfield 19, 0, 1)] (40, [some (zr (some (0, 0))), some (zi v1)], [zr (x1.2.2.1 0 1), zr (some (2, 152))], x1) (by decide +kernel) rfl ?_
  refine zG_dyn fun w2 _ => ?_
  refine zG_run t_Main [(.aload_n 0, 0, 0), (.getfield 30, 0, 3)] (44, [some (zr (some (0, 0))), some (zi v1)], [zr (some (1, 74)), zr (some (3, w2)), zr (some (2, 152))], x1) (by decide +kernel) rfl ?_
  refine zG_callV (idx := 335) (R := (fun a => (none, a))) (as := [zr (some (3, w2)), zr (some (1, 74))]) (rest := []) (n := 2) (fun a ha => c_Diagnosis_seekRow hl ha) (by decide +kernel) ⟨ok_Diagnosis_seekRow, by decide, by decide +kernel⟩ rfl w_359 w_360 w_361 (by decide) rfl rfl rfl (Nat.le_of_ble_eq_true rfl) fun x3 => ?_
  refine zG_run t_Main [(.iload_n 1, 0, 0)] (48, [some (zr (some (0, 0))), some (zi v1)], [zi v1], x3) (by decide +kernel) rfl ?_
  refine zG_if (op := .ne) (off := 13) (tgt := 61) (by decide +kernel) rfl Iff.rfl (fun c4 => ?_) (fun c4 => ?_)
  · refine zG_run t_Main [(.aload_n 0, 0, 0), (.getfield 51, 0, 6), (.getfield 341, 2, 4)] (68, [some (zr (some (0, 0))), some (zi v1)], [zi (x3.1 152 4)], x3) (by decide +kernel) rfl ?_
    exact zG_ret (r := some (zi (x3.1 152 4))) rfl (zrd_i rfl (by decide +kernel))
  · refine zG_run t_Main [(.aload_n 0, 0, 0), (.getfield 51, 0, 6), (.getfield 338, 2, 3), (.goto 10, 0, 0)] (68, [some (zr (some (0, 0))), some (zi v1)], [zi (x3.1 152 3)], x3) (by decide +kernel) rfl ?_
    exact zG_ret (r := some (zi (x3.1 152 3))) rfl (zrd_i rfl (by decide +kernel))
set_option maxRecDepth 20000 in
theorem k_Main_look {l : Launch} {X : zX} (hl : l.stackTraces = false) {h : zH} {v1 : Int32} : zGl l m_Main_look X 1 6 (f_Main_look h v1) (0, [some (zr (some (0, 0))), some (zi v1)], [], h) (fun x => .inr ((Sum.elim (fun a => (.inl (some (zi a.1)), a.2)) (fun q => (.inr q.1, q.2)) : (Int32 × zH) ⊕ (Nat × zH) → zF) x)) := by
  unfold f_Main_look
  refine zG_run t_Main [(.iload_n 1, 0, 0)] (1, [some (zr (some (0, 0))), some (zi v1)], [zi v1], h) (by decide +kernel) rfl ?_
  refine zG_if (op := .eq) (off := 16) (tgt := 17) (by decide +kernel) rfl Iff.rfl (fun c6 => ?_) (fun c6 => ?_)
  · refine zG_mono (bc' := 0) (bs' := 0) (by decide) (by decide) ?_
    exact zG_forget (L' := [some (zr (some (0, 0))), some (zi v1)]) (And.intro rfl (And.intro rfl trivial)) (k_Main_look_j17 hl)
  · refine zG_run t_Main [(.iload_n 1, 0, 0), (.iconst 1, 0, 0)] (6, [some (zr (some (0, 0))), some (zi v1)], [zi 1, zi v1], h) (by decide +kernel) rfl ?_
    refine zG_icmp (op := .eq) (off := 11) (tgt := 17) (by decide +kernel) rfl Iff.rfl (fun c5 => ?_) (fun c5 => ?_)
    · refine zG_mono (bc' := 0) (bs' := 0) (by decide) (by decide) ?_
      exact zG_forget (L' := [some (zr (some (0, 0))), some (zi v1)]) (And.intro rfl (And.intro rfl trivial)) (k_Main_look_j17 hl)
    · refine zG_mono (bc' := 0 + 1) (bs' := 0 + 6) (by decide) (by decide) ?_
      exact zG_throw (k := 1) (ik := 109) (ic := 111) rfl (Or.inl rfl) (by decide +kernel) (by decide +kernel) (by decide +kernel) (by decide +kernel) w_176 w_177 (by decide +kernel) (by decide +kernel) (Nat.le_of_ble_eq_true rfl) (by decide) rfl
theorem c_Main_look {l : Launch} {X : zX} (hl : l.stackTraces = false) {h : zH} {v1 : Int32} {x : (Int32 × zH) ⊕ (Nat × zH)} (hx : f_Main_look h v1 = some x) : zCt l (true, 2) 2 m_Main_look X 1 6 [zr (some (0, 0)), zi v1] h ((Sum.elim (fun a => (.inl (some (zi a.1)), a.2)) (fun q => (.inr q.1, q.2)) : (Int32 × zH) ⊕ (Nat × zH) → zF) x) :=
  zG_ct (R := Sum.elim (fun a => (.inl (some (zi a.1)), a.2)) (fun q => (.inr q.1, q.2))) (x := x) ok_Main_look hl (Nat.le_of_ble_eq_true rfl) hx (k_Main_look hl)
def m_Main_forget : zM := (({ cls := "ScanPacker", name := "forget", desc := "()V" } : Jvm.MethodName), prog_1_method_28_code, 1, (Option.none : Option Jvm.ClassFile.FieldType), [], 1)
theorem ok_Main_forget : zMok m_Main_forget := ⟨by decide +kernel, zW_of 856 (by decide +kernel) (by decide +kernel), zW_of 122 (by decide +kernel) (by decide +kernel), by decide, by decide +kernel, by decide +kernel⟩
set_option maxRecDepth 20000 in
theorem k_Main_forget {l : Launch} {X : zX} (hl : l.stackTraces = false) {h : zH} : zGl l m_Main_forget X 0 0 (f_Main_forget h) (0, [some (zr (some (0, 0)))], [], h) (fun x => .inr ((fun a => (.inl none, a) : zH → zF) x)) := by
  unfold f_Main_forget
  refine zG_bind (fun y => (8, [some (zr (some (0, 0)))], [], y)) (zG_run t_Main [(.aload_n 0, 0, 0), (.getfield 58, 0, 7), (.iconst 0, 0, 0), (.putfield 316, 7, 7)] (8, [some (zr (some (0, 0)))], [], zsI h 155 7 0) (by decide +kernel) rfl (zG_end (L' := [some (zr (some (0, 0)))]) rfl (And.intro rfl trivial))) fun h1 => ?_
  exact zG_ret (r := none) rfl (zrd_v rfl (by decide +kernel))
theorem c_Main_forget {l : Launch} {X : zX} (hl : l.stackTraces = false) {h : zH} {x : zH} (hx : f_Main_forget h = some x) : zCt l (true, 2) 2 m_Main_forget X 0 0 [zr (some (0, 0))] h ((fun a => (.inl none, a) : zH → zF) x) :=
  zG_ct (R := fun a => (.inl none, a)) (x := x) ok_Main_forget hl (Nat.le_of_ble_eq_true rfl) hx (k_Main_forget hl)
def m_Main_behind : zM := (({ cls := "ScanPacker", name := "behind", desc := "(I)I" } : Jvm.MethodName), prog_1_method_29_code, 4, (Option.some Jvm.ClassFile.FieldType.int), [], 6)
theorem ok_Main_behind : zMok m_Main_behind := ⟨by decide +kernel, zW_of 1336 (by decide +kernel) (by decide +kernel), zW_of 122 (by decide +kernel) (by decide +kernel), by decide, by decide +kernel, by decide +kernel⟩
set_option maxRecDepth 20000 in
theorem k_Main_behind_j10 {l : Launch} {X : zX} (hl : l.stackTraces = false) {h : zH} : zGl l m_Main_behind X 1 6 (f_Main_behind_j10 h) (10, [none, none, none, none], [], h) (fun x => .inr ((Sum.elim (fun a => (.inl (some (zi a.1)), a.2)) (fun q => (.inr q.1, q.2)) : (Int32 × zH) ⊕ (Nat × zH) → zF) x)) := by
  unfold f_Main_behind_j10
  refine zG_mono (bc' := 0 + 1) (bs' := 0 + 6) (by decide) (by decide) ?_
  exact zG_throw (k := 2) (ik := 92) (ic := 94) rfl (Or.inr rfl) (by decide +kernel) (by decide +kernel) (by decide +kernel) (by decide +kernel) w_3 w_4 (by decide +kernel) (by decide +kernel) (Nat.le_of_ble_eq_true rfl) (by decide) rfl
set_option maxRecDepth 20000 in
theorem k_Main_behind_b31 {l : Launch} {X : zX} (hl : l.stackTraces = false) {h : zH} {v1 : Int32} {v2 : Int32} {v3 : Int32} : zGl l m_Main_behind X 0 0 (f_Main_behind_b31 h v1 v2 v3) (31, [some (zr (some (0, 0))), some (zi v1), some (zi v2), some (zi v3)], [], h) (Sum.elim (fun s : Int32 × Int32 => .inl (31, [some (zr (some (0, 0))), some (zi v1), some (zi s.1), some (zi s.2)], [], h)) (fun y : Int32 => .inl (65, [none, none, some (zi y), none], [], h))) := by
  unfold f_Main_behind_b31
  refine zG_run t_Main [(.iload_n 3, 0, 0), (.iload_n 1, 0, 0)] (33, [some (zr (some (0, 0))), some (zi v1), some (zi v2), some (zi v3)], [zi v1, zi v3], h) (by decide +kernel) rfl ?_
  refine zG_icmp (op := .ge) (off := 32) (tgt := 65) (by decide +kernel) rfl Iff.rfl (fun c3 => ?_) (fun c3 => ?_)
  · exact zG_end (L' := [none, none, some (zi v2), none]) rfl (And.intro rfl trivial)
  · refine zG_run t_Main [(.aload_n 0, 0, 0), (.getfield 30, 0, 3), (.aload_n 0, 0, 0), (.getfield 19, 0, 1)] (44, [some (zr (some (0, 0))), some (zi v1), some (zi v2), some (zi v3)], [zr (h.2.2.1 0 1), zr (some (1, 74))], h) (by decide +kernel) rfl ?_
    refine zG_dyn fun w1 _ => ?_
    refine zG_run t_Main [(.iload_n 2, 0, 0), (.aload_n 0, 0, 0), (.getfield 58, 0, 7), (.getfield 139, 7, 0), (.getfield 142, 8, 2)] (55, [some (zr (some (0, 0))), some (zi v1), some (zi v2), some (zi v3)], [zi (h.1 156 2), zi v2, zr (some (3, w1)), zr (some (1, 74))], h) (by decide +kernel) rfl ?_
    refine zG_callV (idx := 344) (R := (fun a => (some (zi a), h))) (as := [zr (some (3, w1)), zi v2, zi (h.1 156 2)]) (rest := []) (n := 3) (fun a ha => c_Catalog_inputsTaken hl ha) (by decide +kernel) ⟨ok_Catalog_inputsTaken, by decide, by decide +kernel⟩ rfl w_362 w_313 w_314 (by decide) rfl rfl rfl (Nat.le_of_ble_eq_true rfl) fun x2 => ?_
    refine zG_run t_Main [(.istore_n 2, 0, 0), (.iinc 3 1, 0, 0), (.goto (-31), 0, 0)] (31, [some (zr (some (0, 0))), some (zi v1), some (zi x2), some (zi (v3 + 1))], [], h) (by decide +kernel) rfl ?_
    exact zG_end (L' := [some (zr (some (0, 0))), some (zi v1), some (zi x2), some (zi (v3 + 1))]) rfl (And.intro rfl (And.intro rfl (And.intro rfl (And.intro rfl trivial))))
set_option maxRecDepth 20000 in
theorem k_Main_behind {l : Launch} {X : zX} (hl : l.stackTraces = false) {h : zH} {v1 : Int32} : zGl l m_Main_behind X 1 6 (f_Main_behind h v1) (0, [some (zr (some (0, 0))), some (zi v1), none, none], [], h) (fun x => .inr ((Sum.elim (fun a => (.inl (some (zi a.1)), a.2)) (fun q => (.inr q.1, q.2)) : (Int32 × zH) ⊕ (Nat × zH) → zF) x)) := by
  unfold f_Main_behind
  refine zG_run t_Main [(.iload_n 1, 0, 0)] (1, [some (zr (some (0, 0))), some (zi v1), none, none], [zi v1], h) (by decide +kernel) rfl ?_
  refine zG_if (op := .lt) (off := 9) (tgt := 10) (by decide +kernel) rfl Iff.rfl (fun c7 => ?_) (fun c7 => ?_)
  · refine zG_mono (bc' := 1) (bs' := 6) (by decide) (by decide) ?_
    exact zG_forget (L' := [none, none, none, none]) (trivial) (k_Main_behind_j10 hl)
  · refine zG_run t_Main [(.iload_n 1, 0, 0), (.bipush 40, 0, 0)] (7, [some (zr (some (0, 0))), some (zi v1), none, none], [zi 40, zi v1], h) (by decide +kernel) rfl ?_
    refine zG_icmp (op := .le) (off := 11) (tgt := 18) (by decide +kernel) rfl Iff.rfl (fun c6 => ?_) (fun c6 => ?_)
    · refine zG_run t_Main [(.aload_n 0, 0, 0), (.getfield 58, 0, 7), (.getfield 139, 7, 0), (.getfield 145, 8, 0), (.istore_n 2, 0, 0), (.iconst 0, 0, 0), (.istore_n 3, 0, 0)] (31, [some (zr (some (0, 0))), some (zi v1), some (zi (h.1 156 0)), some (zi 0)], [], h) (by decide +kernel) rfl ?_
      refine zG_forget (L' := [some (zr (some (0, 0))), some (zi v1), some (zi (h.1 156 0)), some (zi 0)]) (And.intro rfl (And.intro rfl (And.intro rfl (And.intro rfl trivial)))) ?_
      refine zG_bind (fun y : Int32 => (65, [none, none, some (zi y), none], [], h)) (zG_iter (fun s : Int32 × Int32 => (31, [some (zr (some (0, 0))), some (zi v1), some (zi s.1), some (zi s.2)], [], h)) fun s => k_Main_behind_b31 hl) (fun y5 => ?_)
      refine zG_run t_Main [(.iload_n 2, 0, 0)] (66, [none, none, some (zi y5), none], [zi y5], h) (by decide +kernel) rfl ?_
      exact zG_ret (r := some (zi y5)) rfl (zrd_i rfl (by decide +kernel))
    · refine zG_mono (bc' := 1) (bs' := 6) (by decide) (by decide) ?_
      exact zG_forget (L' := [none, none, none, none]) (trivial) (k_Main_behind_j10 hl)
theorem c_Main_behind {l : Launch} {X : zX} (hl : l.stackTraces = false) {h : zH} {v1 : Int32} {x : (Int32 × zH) ⊕ (Nat × zH)} (hx : f_Main_behind h v1 = some x) : zCt l (true, 2) 2 m_Main_behind X 1 6 [zr (some (0, 0)), zi v1] h ((Sum.elim (fun a => (.inl (some (zi a.1)), a.2)) (fun q => (.inr q.1, q.2)) : (Int32 × zH) ⊕ (Nat × zH) → zF) x) :=
  zG_ct (R := Sum.elim (fun a => (.inl (some (zi a.1)), a.2)) (fun q => (.inr q.1, q.2))) (x := x) ok_Main_behind hl (Nat.le_of_ble_eq_true rfl) hx (k_Main_behind hl)
def m_Main_back : zM := (({ cls := "ScanPacker", name := "back", desc := "()I" } : Jvm.MethodName), prog_1_method_30_code, 3, (Option.some Jvm.ClassFile.FieldType.int), [], 3)
theorem ok_Main_back : zMok m_Main_back := ⟨by decide +kernel, zW_of 860 (by decide +kernel) (by decide +kernel), zW_of 122 (by decide +kernel) (by decide +kernel), by decide, by decide +kernel, by decide +kernel⟩
set_option maxRecDepth 20000 in
theorem k_Main_back_b13 {l : Launch} {X : zX} (hl : l.stackTraces = false) {h : zH} {v1 : Int32} {v2 : Int32} : zGl l m_Main_back X 0 0 (f_Main_back_b13 h v1 v2) (13, [some (zr (some (0, 0))), some (zi v1), some (zi v2)], [], h) (Sum.elim (fun s : Int32 × Int32 => .inl (13, [some (zr (some (0, 0))), some (zi s.1), some (zi s.2)], [], h)) (Sum.elim (fun y : Int32 => .inl (56, [none, none, some (zi y)], [], h)) (fun y : Unit => .inl (64, [none, none, none], [], h)))) := by
  unfold f_Main_back_b13
  refine zG_run t_Main [(.iload_n 2, 0, 0), (.bipush 64, 0, 0)] (16, [some (zr (some (0, 0))), some (zi v1), some (zi v2)], [zi 64, zi v2], h) (by decide +kernel) rfl ?_
  refine zG_icmp (op := .gt) (off := 48) (tgt := 64) (by decide +kernel) rfl Iff.rfl (fun c4 => ?_) (fun c4 => ?_)
  · exact zG_end (L' := [none, none, none]) rfl (trivial)
  · refine zG_run t_Main [(.aload_n 0, 0, 0), (.getfield 30, 0, 3), (.aload_n 0, 0, 0), (.getfield 19, 0, 1)] (27, [some (zr (some (0, 0))), some (zi v1), some (zi v2)], [zr (h.2.2.1 0 1), zr (some (1, 74))], h) (by decide +kernel) rfl ?_
    refine zG_dyn fun w1 _ => ?_
    refine zG_run t_Main [(.iload_n 1, 0, 0), (.aload_n 0, 0, 0), (.getfield 58, 0, 7), (.getfield 139, 7, 0), (.getfield 142, 8, 2)] (38, [some (zr (some (0, 0))), some (zi v1), some (zi v2)], [zi (h.1 156 2), zi v1, zr (some (3, w1)), zr (some (1, 74))], h) (by decide +kernel) rfl ?_
    refine zG_callV (idx := 344) (R := (fun a => (some (zi a), h))) (as := [zr (some (3, w1)), zi v1, zi (h.1 156 2)]) (rest := []) (n := 3) (fun a ha => c_Catalog_inputsTaken hl ha) (by decide +kernel) ⟨ok_Catalog_inputsTaken, by decide, by decide +kernel⟩ rfl w_362 w_313 w_314 (by decide) rfl rfl rfl (Nat.le_of_ble_eq_true rfl) fun x2 => ?_
    refine zG_run t_Main [(.istore_n 1, 0, 0), (.iload_n 1, 0, 0), (.aload_n 0, 0, 0), (.getfield 58, 0, 7), (.getfield 139, 7, 0), (.getfield 145, 8, 0)] (53, [some (zr (some (0, 0))), some (zi x2), some (zi v2)], [zi (h.1 156 0), zi x2], h) (by decide +kernel) rfl ?_
    refine zG_icmp (op := .ne) (off := 5) (tgt := 58) (by decide +kernel) rfl Iff.rfl (fun c3 => ?_) (fun c3 => ?_)
    · refine zG_run t_Main [(.iinc 2 1, 0, 0), (.goto (-48), 0, 0)] (13, [some (zr (some (0, 0))), some (zi x2), some (zi (v2 + 1))], [], h) (by decide +kernel) rfl ?_
      exact zG_end (L' := [some (zr (some (0, 0))), some (zi x2), some (zi (v2 + 1))]) rfl (And.intro rfl (And.intro rfl (And.intro rfl trivial)))
    · exact zG_end (L' := [none, none, some (zi v2)]) rfl (And.intro rfl trivial)
set_option maxRecDepth 20000 in
theorem k_Main_back {l : Launch} {X : zX} (hl : l.stackTraces = false) {h : zH} : zGl l m_Main_back X 0 0 (f_Main_back h) (0, [some (zr (some (0, 0))), none, none], [], h) (fun x => .inr ((fun a => (.inl (some (zi a)), h) : Int32 → zF) x)) := by
  unfold f_Main_back
  refine zG_run t_Main [(.aload_n 0, 0, 0), (.getfield 58, 0, 7), (.getfield 139, 7, 0), (.getfield 145, 8, 0), (.istore_n 1, 0, 0), (.iconst 1, 0, 0), (.istore_n 2, 0, 0)] (13, [some (zr (some (0, 0))), some (zi (h.1 156 0)), some (zi 1)], [], h) (by decide +kernel) rfl ?_
  refine zG_forget (L' := [some (zr (some (0, 0))), some (zi (h.1 156 0)), some (zi 1)]) (And.intro rfl (And.intro rfl (And.intro rfl trivial))) ?_
  refine zG_bind2 (fun y : Int32 => (56, [none, none, some (zi y)], [], h)) (fun y : Unit => (64, [none, none, none], [], h)) (zG_iter (fun s : Int32 × Int32 => (13, [some (zr (some (0, 0))), some (zi s.1), some (zi s.2)], [], h)) fun s => k_Main_back_b13 hl) (fun y6 => ?_) (fun y7 => ?_)
  · refine zG_run t_Main [(.iload_n 2, 0, 0)] (57, [none, none, some (zi y6)], [zi y6], h) (by decide +kernel) rfl ?_
    exact zG_ret (r := some (zi y6)) rfl (zrd_i rfl (by decide +kernel))
  · refine zG_run t_Main [(.iconst (-1), 0, 0)] (65, [none, none, none], [zi (-1)], h) (by decide +kernel) rfl ?_
    exact zG_ret (r := some (zi (-1))) rfl (zrd_i rfl (by decide +kernel))
theorem c_Main_back {l : Launch} {X : zX} (hl : l.stackTraces = false) {h : zH} {x : Int32} (hx : f_Main_back h = some x) : zCt l (true, 2) 2 m_Main_back X 0 0 [zr (some (0, 0))] h ((fun a => (.inl (some (zi a)), h) : Int32 → zF) x) :=
  zG_ct (R := fun a => (.inl (some (zi a)), h)) (x := x) ok_Main_back hl (Nat.le_of_ble_eq_true rfl) hx (k_Main_back hl)
def m_Catalog_tellApart : zM := (({ cls := "ScanPacker$Catalog", name := "tellApart", desc := "(LScanPacker$Net;III)Z" } : Jvm.MethodName), prog_2_method_10_code, 6, (Option.some Jvm.ClassFile.FieldType.boolean), [], 3)
theorem ok_Catalog_tellApart : zMok m_Catalog_tellApart := ⟨by decide +kernel, zW_of 1347 (by decide +kernel) (by decide +kernel), zW_of 126 (by decide +kernel) (by decide +kernel), by decide, by decide +kernel, by decide +kernel⟩
set_option maxRecDepth 20000 in
theorem k_Catalog_tellApart_b3 {l : Launch} {X : zX} (hl : l.stackTraces = false) {o1 : Nat} {h : zH} {v2 : Int32} {v3 : Int32} {v4 : Int32} {v5 : Int32} : zGl l m_Catalog_tellApart X 0 0 (f_Catalog_tellApart_b3 o1 h v2 v3 v4 v5) (3, [some (zr (some (1, 74))), some (zr (some (3, o1))), some (zi v2), some (zi v3), some (zi v4), some (zi v5)], [], h) (Sum.elim (fun s : Int32 => .inl (3, [some (zr (some (1, 74))), some (zr (some (3, o1))), some (zi v2), some (zi v3), some (zi v4), some (zi s)], [], h)) (Sum.elim (fun y : Unit => .inl (41, [none, none, none, none, none, none], [], h)) (fun y : Unit => .inl (49, [none, none, none, none, none, none], [], h)))) := by
  unfold f_Catalog_tellApart_b3
  refine zG_run t_Catalog [(.iload 5, 0, 0), (.aload_n 1, 0, 0)] (6, [some (zr (some (1, 74))), some (zr (some (3, o1))), some (zi v2), some (zi v3), some (zi v4), some (zi v5)], [zr (some (3, o1)), zi v5], h) (by decide +kernel) rfl ?_
  refine zG_callV (idx := 46) (R := (fun a => (some (zi a), h))) (as := []) (rest := [zi v5]) (n := 0) (fun a ha => c_Net_lines hl ha) (by decide +kernel) ⟨ok_Net_lines, by decide, by decide +kernel⟩ rfl w_102 w_35 w_36 (by decide) rfl rfl rfl (Nat.le_of_ble_eq_true rfl) fun x1 => ?_
  refine zG_icmp (op := .ge) (off := 40) (tgt := 49) (by decide +kernel) rfl Iff.rfl (fun c7 => ?_) (fun c7 => ?_)
  · exact zG_end (L' := [none, none, none, none, none, none]) rfl (trivial)
  · refine zG_run t_Catalog [(.aload_n 1, 0, 0), (.iload 5, 0, 0)] (15, [some (zr (some (1, 74))), some (zr (some (3, o1))), some (zi v2), some (zi v3), some (zi v4), some (zi v5)], [zi v5, zr (some (3, o1))], h) (by decide +kernel) rfl ?_
    refine zG_callV (idx := 99) (R := (fun a => (some (zi a), h))) (as := [zi v5]) (rest := []) (n := 1) (fun a ha => c_Net_isSeen hl ha) (by decide +kernel) ⟨ok_Net_isSeen, by decide, by decide +kernel⟩ rfl w_125 w_126 w_127 (by decide) rfl rfl rfl (Nat.le_of_ble_eq_true rfl) fun x2 => ?_
    refine zG_if (op := .eq) (off := 25) (tgt := 43) (by decide +kernel) rfl Iff.rfl (fun c6 => ?_) (fun c6 => ?_)
    · refine zG_run t_Catalog [(.iinc 5 1, 0, 0), (.goto (-43), 0, 0)] (3, [some (zr (some (1, 74))), some (zr (some (3, o1))), some (zi v2), some (zi v3), some (zi v4), some (zi (v5 + 1))], [], h) (by decide +kernel) rfl ?_
      exact zG_end (L' := [some (zr (some (1, 74))), some (zr (some (3, o1))), some (zi v2), some (zi v3), some (zi v4), some (zi (v5 + 1))]) rfl (And.intro rfl (And.intro rfl (And.intro rfl (And.intro rfl (And.intro rfl (And.intro rfl trivial))))))
    · refine zG_run t_Catalog [(.aload_n 0, 0, 0), (.iconst (-1), 0, 0), (.iload 5, 0, 0), (.iload_n 2, 0, 0)] (26, [some (zr (some (1, 74))), some (zr (some (3, o1))), some (zi v2), some (zi v3), some (zi v4), some (zi v5)], [zi v2, zi v5, zi (-1), zr (some (1, 74))], h) (by decide +kernel) rfl ?_
      refine zG_callV (idx := 103) (R := (fun a => (some (zi a), h))) (as := [zi (-1), zi v5, zi v2]) (rest := []) (n := 3) (fun a ha => c_Catalog_tell hl ha) (by decide +kernel) ⟨ok_Catalog_tell, by decide, by decide +kernel⟩ rfl w_311 w_228 w_229 (by decide) rfl rfl rfl (Nat.le_of_ble_eq_true rfl) fun x3 => ?_
      refine zG_run t_Catalog [(.aload_n 0, 0, 0), (.iload 4, 0, 0), (.iload 5, 0, 0), (.iload_n 3, 0, 0)] (35, [some (zr (some (1, 74))), some (zr (some (3, o1))), some (zi v2), some (zi v3), some (zi v4), some (zi v5)], [zi v3, zi v5, zi v4, zr (some (1, 74)), zi x3], h) (by decide +kernel) rfl ?_
      refine zG_callV (idx := 103) (R := (fun a => (some (zi a), h))) (as := [zi v4, zi v5, zi v3]) (rest := [zi x3]) (n := 3) (fun a ha => c_Catalog_tell hl ha) (by decide +kernel) ⟨ok_Catalog_tell, by decide, by decide +kernel⟩ rfl w_311 w_228 w_229 (by decide) rfl rfl rfl (Nat.le_of_ble_eq_true rfl) fun x4 => ?_
      refine zG_icmp (op := .eq) (off := 5) (tgt := 43) (by decide +kernel) rfl Iff.rfl (fun c5 => ?_) (fun c5 => ?_)
      · refine zG_run t_Catalog [(.iinc 5 1, 0, 0), (.goto (-43), 0, 0)] (3, [some (zr (some (1, 74))), some (zr (some (3, o1))), some (zi v2), some (zi v3), some (zi v4), some (zi (v5 + 1))], [], h) (by decide +kernel) rfl ?_
        exact zG_end (L' := [some (zr (some (1, 74))), some (zr (some (3, o1))), some (zi v2), some (zi v3), some (zi v4), some (zi (v5 + 1))]) rfl (And.intro rfl (And.intro rfl (And.intro rfl (And.intro rfl (And.intro rfl (And.intro rfl trivial))))))
      · exact zG_end (L' := [none, none, none, none, none, none]) rfl (trivial)
set_option maxRecDepth 20000 in
theorem k_Catalog_tellApart {l : Launch} {X : zX} (hl : l.stackTraces = false) {o1 : Nat} {h : zH} {v2 : Int32} {v3 : Int32} {v4 : Int32} : zGl l m_Catalog_tellApart X 0 0 (f_Catalog_tellApart o1 h v2 v3 v4) (0, [some (zr (some (1, 74))), some (zr (some (3, o1))), some (zi v2), some (zi v3), some (zi v4), none], [], h) (fun x => .inr ((fun a => (.inl (some (zi a)), h) : Int32 → zF) x)) := by
  unfold f_Catalog_tellApart
  refine zG_run t_Catalog [(.iconst 0, 0, 0), (.istore 5, 0, 0)] (3, [some (zr (some (1, 74))), some (zr (some (3, o1))), some (zi v2), some (zi v3), some (zi v4), some (zi 0)], [], h) (by decide +kernel) rfl ?_
  refine zG_forget (L' := [some (zr (some (1, 74))), some (zr (some (3, o1))), some (zi v2), some (zi v3), some (zi v4), some (zi 0)]) (And.intro rfl (And.intro rfl (And.intro rfl (And.intro rfl (And.intro rfl (And.intro rfl trivial)))))) ?_
  refine zG_bind2 (fun y : Unit => (41, [none, none, none, none, none, none], [], h)) (fun y : Unit => (49, [none, none, none, none, none, none], [], h)) (zG_iter (fun s : Int32 => (3, [some (zr (some (1, 74))), some (zr (some (3, o1))), some (zi v2), some (zi v3), some (zi v4), some (zi s)], [], h)) fun s => k_Catalog_tellApart_b3 hl) (fun y9 => ?_) (fun y10 => ?_)
  · refine zG_run t_Catalog [(.iconst 1, 0, 0)] (42, [none, none, none, none, none, none], [zi 1], h) (by decide +kernel) rfl ?_
    exact zG_ret (r := some (zi 1)) rfl (zrd_z rfl (by decide +kernel) rfl)
  · refine zG_run t_Catalog [(.iconst 0, 0, 0)] (50, [none, none, none, none, none, none], [zi 0], h) (by decide +kernel) rfl ?_
    exact zG_ret (r := some (zi 0)) rfl (zrd_z rfl (by decide +kernel) rfl)
theorem c_Catalog_tellApart {l : Launch} {X : zX} (hl : l.stackTraces = false) {o1 : Nat} {h : zH} {v2 : Int32} {v3 : Int32} {v4 : Int32} {x : Int32} (hx : f_Catalog_tellApart o1 h v2 v3 v4 = some x) : zCt l (true, 2) 2 m_Catalog_tellApart X 0 0 [zr (some (1, 74)), zr (some (3, o1)), zi v2, zi v3, zi v4] h ((fun a => (.inl (some (zi a)), h) : Int32 → zF) x) :=
  zG_ct (R := fun a => (.inl (some (zi a)), h)) (x := x) ok_Catalog_tellApart hl (Nat.le_of_ble_eq_true rfl) hx (k_Catalog_tellApart hl)
def m_Main_tells : zM := (({ cls := "ScanPacker", name := "tells", desc := "(I)I" } : Jvm.MethodName), prog_1_method_31_code, 5, (Option.some Jvm.ClassFile.FieldType.int), [], 7)
theorem ok_Main_tells : zMok m_Main_tells := ⟨by decide +kernel, zW_of 1343 (by decide +kernel) (by decide +kernel), zW_of 122 (by decide +kernel) (by decide +kernel), by decide, by decide +kernel, by decide +kernel⟩
set_option maxRecDepth 20000 in
theorem k_Main_tells_b30 {l : Launch} {X : zX} (hl : l.stackTraces = false) {h : zH} {v1 : Int32} {v2 : Int32} {v3 : Int32} {v4 : Int32} : zGl l m_Main_tells X 0 0 (f_Main_tells_b30 h v1 v2 v3 v4) (30, [some (zr (some (0, 0))), some (zi v1), some (zi v2), some (zi v3), some (zi v4)], [], h) (Sum.elim (fun s : Int32 × Int32 × Int32 => .inl (30, [some (zr (some (0, 0))), some (zi v1), some (zi s.1), some (zi s.2.1), some (zi s.2.2)], [], h)) (Sum.elim (fun y : Int32 => .inl (54, [none, none, none, none, some (zi y)], [], h)) (fun y : Unit => .inl (91, [none, none, none, none, none], [], h)))) := by
  unfold f_Main_tells_b30
  refine zG_run t_Main [(.iload 4, 0, 0), (.bipush 64, 0, 0)] (34, [some (zr (some (0, 0))), some (zi v1), some (zi v2), some (zi v3), some (zi v4)], [zi 64, zi v4], h) (by decide +kernel) rfl ?_
  refine zG_icmp (op := .gt) (off := 57) (tgt := 91) (by decide +kernel) rfl Iff.rfl (fun c9 => ?_) (fun c9 => ?_)
  · exact zG_end (L' := [none, none, none, none, none]) rfl (trivial)
  · refine zG_run t_Main [(.aload_n 0, 0, 0), (.getfield 30, 0, 3), (.aload_n 0, 0, 0), (.getfield 19, 0, 1)] (45, [some (zr (some (0, 0))), some (zi v1), some (zi v2), some (zi v3), some (zi v4)], [zr (h.2.2.1 0 1), zr (some (1, 74))], h) (by decide +kernel) rfl ?_
    refine zG_dyn fun w2 _ => ?_
    refine zG_run t_Main [(.iload_n 2, 0, 0), (.iload_n 3, 0, 0), (.iload_n 1, 0, 0)] (48, [some (zr (some (0, 0))), some (zi v1), some (zi v2), some (zi v3), some (zi v4)], [zi v1, zi v3, zi v2, zr (some (3, w2)), zr (some (1, 74))], h) (by decide +kernel) rfl ?_
    refine zG_callV (idx := 348) (R := (fun a => (some (zi a), h))) (as := [zr (some (3, w2)), zi v2, zi v3, zi v1]) (rest := []) (n := 4) (fun a ha => c_Catalog_tellApart hl ha) (by decide +kernel) ⟨ok_Catalog_tellApart, by decide, by decide +kernel⟩ rfl w_363 w_364 w_365 (by decide) rfl rfl rfl (Nat.le_of_ble_eq_true rfl) fun x3 => ?_
    refine zG_if (op := .eq) (off := 6) (tgt := 57) (by decide +kernel) rfl Iff.rfl (fun c8 => ?_) (fun c8 => ?_)
    · refine zG_run t_Main [(.aload_n 0, 0, 0), (.getfield 30, 0, 3), (.aload_n 0, 0, 0), (.getfield 19, 0, 1)] (65, [some (zr (some (0, 0))), some (zi v1), some (zi v2), some (zi v3), some (zi v4)], [zr (h.2.2.1 0 1), zr (some (1, 74))], h) (by decide +kernel) rfl ?_
      refine zG_dyn fun w4 _ => ?_
      refine zG_run t_Main [(.iload_n 2, 0, 0), (.iconst (-1), 0, 0)] (67, [some (zr (some (0, 0))), some (zi v1), some (zi v2), some (zi v3), some (zi v4)], [zi (-1), zi v2, zr (some (3, w4)), zr (some (1, 74))], h) (by decide +kernel) rfl ?_
      refine zG_callV (idx := 344) (R := (fun a => (some (zi a), h))) (as := [zr (some (3, w4)), zi v2, zi (-1)]) (rest := []) (n := 3) (fun a ha => c_Catalog_inputsTaken hl ha) (by decide +kernel) ⟨ok_Catalog_inputsTaken, by decide, by decide +kernel⟩ rfl w_362 w_313 w_314 (by decide) rfl rfl rfl (Nat.le_of_ble_eq_true rfl) fun x5 => ?_
      refine zG_run t_Main [(.istore_n 2, 0, 0), (.aload_n 0, 0, 0), (.getfield 30, 0, 3), (.aload_n 0, 0, 0), (.getfield 19, 0, 1)] (79, [some (zr (some (0, 0))), some (zi v1), some (zi x5), some (zi v3), some (zi v4)], [zr (h.2.2.1 0 1), zr (some (1, 74))], h) (by decide +kernel) rfl ?_
      refine zG_dyn fun w6 _ => ?_
      refine zG_run t_Main [(.iload_n 3, 0, 0), (.iload_n 1, 0, 0)] (81, [some (zr (some (0, 0))), some (zi v1), some (zi x5), some (zi v3), some (zi v4)], [zi v1, zi v3, zr (some (3, w6)), zr (some (1, 74))], h) (by decide +kernel) rfl ?_
      refine zG_callV (idx := 344) (R := (fun a => (some (zi a), h))) (as := [zr (some (3, w6)), zi v3, zi v1]) (rest := []) (n := 3) (fun a ha => c_Catalog_inputsTaken hl ha) (by decide +kernel) ⟨ok_Catalog_inputsTaken, by decide, by decide +kernel⟩ rfl w_362 w_313 w_314 (by decide) rfl rfl rfl (Nat.le_of_ble_eq_true rfl) fun x7 => ?_
      refine zG_run t_Main [(.istore_n 3, 0, 0), (.iinc 4 1, 0, 0), (.goto (-58), 0, 0)] (30, [some (zr (some (0, 0))), some (zi v1), some (zi x5), some (zi x7), some (zi (v4 + 1))], [], h) (by decide +kernel) rfl ?_
      exact zG_end (L' := [some (zr (some (0, 0))), some (zi v1), some (zi x5), some (zi x7), some (zi (v4 + 1))]) rfl (And.intro rfl (And.intro rfl (And.intro rfl (And.intro rfl (And.intro rfl trivial)))))
    · exact zG_end (L' := [none, none, none, none, some (zi v4)]) rfl (And.intro rfl trivial)
set_option maxRecDepth 20000 in
theorem k_Main_tells {l : Launch} {X : zX} (hl : l.stackTraces = false) {h : zH} {v1 : Int32} : zGl l m_Main_tells X 1 6 (f_Main_tells h v1) (0, [some (zr (some (0, 0))), some (zi v1), none, none, none], [], h) (fun x => .inr ((Sum.elim (fun a => (.inl (some (zi a.1)), a.2)) (fun q => (.inr q.1, q.2)) : (Int32 × zH) ⊕ (Nat × zH) → zF) x)) := by
  unfold f_Main_tells
  refine zG_run t_Main [(.aload_n 0, 0, 0), (.iload_n 1, 0, 0)] (2, [some (zr (some (0, 0))), some (zi v1), none, none, none], [zi v1, zr (some (0, 0))], h) (by decide +kernel) rfl ?_
  refine zG_mono (bc' := 0 + 1) (bs' := 0 + 6) (by decide) (by decide) ?_
  refine zG_callX (idx := 175) (R := (fun a => none)) (as := [zi v1]) (rest := []) (n := 1) (fun a h1 ha => c_Main_needFault hl ha) (fun k h1 ha => c_Main_needFault hl ha) (by decide +kernel) ⟨ok_Main_needFault, by decide, by decide +kernel⟩ rfl rfl w_236 w_237 w_238 (by decide) rfl rfl rfl (Nat.le_of_ble_eq_true rfl) (fun _ => rfl) fun x1 => ?_
  refine zG_run t_Main [(.aload_n 0, 0, 0), (.getfield 58, 0, 7), (.getfield 139, 7, 0), (.getfield 145, 8, 0), (.istore_n 2, 0, 0), (.aload_n 0, 0, 0), (.getfield 58, 0, 7), (.getfield 139, 7, 0), (.getfield 145, 8, 0), (.istore_n 3, 0, 0), (.iconst 0, 0, 0), (.istore 4, 0, 0)] (30, [some (zr (some (0, 0))), some (zi v1), some (zi (x1.2.1 156 0)), some (zi (x1.2.1 156 0)), some (zi 0)], [], x1.2) (by decide +kernel) rfl ?_
  refine zG_forget (L' := [some (zr (some (0, 0))), some (zi v1), some (zi (x1.2.1 156 0)), some (zi (x1.2.1 156 0)), some (zi 0)]) (And.intro rfl (And.intro rfl (And.intro rfl (And.intro rfl (And.intro rfl trivial))))) ?_
  refine zG_bind2 (fun y : Int32 => (54, [none, none, none, none, some (zi y)], [], x1.2)) (fun y : Unit => (91, [none, none, none, none, none], [], x1.2)) (zG_iter (fun s : Int32 × Int32 × Int32 => (30, [some (zr (some (0, 0))), some (zi v1), some (zi s.1), some (zi s.2.1), some (zi s.2.2)], [], x1.2)) fun s => k_Main_tells_b30 hl) (fun y11 => ?_) (fun y12 => ?_)
  · refine zG_run t_Main [(.iload 4, 0, 0)] (56, [none, none, none, none, some (zi y11)], [zi y11], x1.2) (by decide +kernel) rfl ?_
    exact zG_ret (r := some (zi y11)) rfl (zrd_i rfl (by decide +kernel))
  · refine zG_run t_Main [(.iconst (-1), 0, 0)] (92, [none, none, none, none, none], [zi (-1)], x1.2) (by decide +kernel) rfl ?_
    exact zG_ret (r := some (zi (-1))) rfl (zrd_i rfl (by decide +kernel))
theorem c_Main_tells {l : Launch} {X : zX} (hl : l.stackTraces = false) {h : zH} {v1 : Int32} {x : (Int32 × zH) ⊕ (Nat × zH)} (hx : f_Main_tells h v1 = some x) : zCt l (true, 2) 2 m_Main_tells X 1 6 [zr (some (0, 0)), zi v1] h ((Sum.elim (fun a => (.inl (some (zi a.1)), a.2)) (fun q => (.inr q.1, q.2)) : (Int32 × zH) ⊕ (Nat × zH) → zF) x) :=
  zG_ct (R := Sum.elim (fun a => (.inl (some (zi a.1)), a.2)) (fun q => (.inr q.1, q.2))) (x := x) ok_Main_tells hl (Nat.le_of_ble_eq_true rfl) hx (k_Main_tells hl)
def m_Main_stir : zM := (({ cls := "ScanPacker", name := "stir", desc := "(I)I" } : Jvm.MethodName), prog_1_method_40_code, 1, (Option.some Jvm.ClassFile.FieldType.int), [], 1)
theorem ok_Main_stir : zMok m_Main_stir := ⟨by decide +kernel, zW_of 1362 (by decide +kernel) (by decide +kernel), zW_of 122 (by decide +kernel) (by decide +kernel), by decide, by decide +kernel, by decide +kernel⟩
set_option maxRecDepth 20000 in
theorem k_Main_stir {l : Launch} {X : zX} (hl : l.stackTraces = false) {h : zH} {v0 : Int32} : zGl l m_Main_stir X 0 0 (f_Main_stir v0) (0, [some (zi v0)], [], h) (fun x => .inr ((fun a => (.inl (some (zi a)), h) : Int32 → zF) x)) := by
  unfold f_Main_stir
  refine zG_run t_Main [(.iload_n 0, 0, 0)] (1, [some (zi v0)], [zi v0], h) (by decide +kernel) rfl ?_
  refine zG_ldcw (v := 1103515245) (by decide +kernel) w_367 ?_
  refine zG_run t_Main [(.imul, 0, 0), (.sipush 12345, 0, 0), (.iadd, 0, 0)] (9, [some (zi v0)], [zi ((v0 * 1103515245) + 12345)], h) (by decide +kernel) rfl ?_
  exact zG_ret (r := some (zi ((v0 * 1103515245) + 12345))) rfl (zrd_i rfl (by decide +kernel))
theorem c_Main_stir {l : Launch} {X : zX} (hl : l.stackTraces = false) {h : zH} {v0 : Int32} {x : Int32} (hx : f_Main_stir v0 = some x) : zCt l (true, 2) 2 m_Main_stir X 0 0 [zi v0] h ((fun a => (.inl (some (zi a)), h) : Int32 → zF) x) :=
  zG_ct (R := fun a => (.inl (some (zi a)), h)) (x := x) ok_Main_stir hl (Nat.le_of_ble_eq_true rfl) hx (k_Main_stir hl)
def m_Main_draw : zM := (({ cls := "ScanPacker", name := "draw", desc := "(II)I" } : Jvm.MethodName), prog_1_method_41_code, 2, (Option.some Jvm.ClassFile.FieldType.int), [], 1)
theorem ok_Main_draw : zMok m_Main_draw := ⟨by decide +kernel, zW_of 1366 (by decide +kernel) (by decide +kernel), zW_of 122 (by decide +kernel) (by decide +kernel), by decide, by decide +kernel, by decide +kernel⟩
set_option maxRecDepth 20000 in
theorem k_Main_draw {l : Launch} {X : zX} (hl : l.stackTraces = false) {h : zH} {v0 : Int32} {v1 : Int32} : zGl l m_Main_draw X 0 0 (f_Main_draw v0 v1) (0, [some (zi v0), some (zi v1)], [], h) (fun x => .inr ((fun a => (.inl (some (zi a)), h) : Int32 → zF) x)) := by
  unfold f_Main_draw
  refine zG_run t_Main [(.iload_n 1, 0, 0), (.iconst 1, 0, 0)] (2, [some (zi v0), some (zi v1)], [zi 1, zi v1], h) (by decide +kernel) rfl ?_
  refine zG_icmp (op := .ge) (off := 7) (tgt := 9) (by decide +kernel) rfl Iff.rfl (fun c1 => ?_) (fun c1 => ?_)
  · refine zG_run t_Main [(.iload_n 0, 0, 0), (.bipush 16, 0, 0), (.iushr, 0, 0), (.sipush 32767, 0, 0), (.iand, 0, 0), (.iload_n 1, 0, 0)] (18, [some (zi v0), some (zi v1)], [zi v1, zi ((zushr v0 16) &&& 32767)], h) (by decide +kernel) rfl ?_
    refine zG_irem (by decide +kernel) ?_
    exact zG_ret (r := some (zi (zrem ((zushr v0 16) &&& 32767) v1))) rfl (zrd_i rfl (by decide +kernel))
  · refine zG_run t_Main [(.iconst 0, 0, 0), (.goto 13, 0, 0)] (19, [some (zi v0), some (zi v1)], [zi 0], h) (by decide +kernel) rfl ?_
    exact zG_ret (r := some (zi 0)) rfl (zrd_i rfl (by decide +kernel))
theorem c_Main_draw {l : Launch} {X : zX} (hl : l.stackTraces = false) {h : zH} {v0 : Int32} {v1 : Int32} {x : Int32} (hx : f_Main_draw v0 v1 = some x) : zCt l (true, 2) 2 m_Main_draw X 0 0 [zi v0, zi v1] h ((fun a => (.inl (some (zi a)), h) : Int32 → zF) x) :=
  zG_ct (R := fun a => (.inl (some (zi a)), h)) (x := x) ok_Main_draw hl (Nat.le_of_ble_eq_true rfl) hx (k_Main_draw hl)
def m_Main_liveYear : zM := (({ cls := "ScanPacker", name := "liveYear", desc := "(I)I" } : Jvm.MethodName), prog_1_method_39_code, 3, (Option.some Jvm.ClassFile.FieldType.int), [], 4)
theorem ok_Main_liveYear : zMok m_Main_liveYear := ⟨by decide +kernel, zW_of 1359 (by decide +kernel) (by decide +kernel), zW_of 122 (by decide +kernel) (by decide +kernel), by decide, by decide +kernel, by decide +kernel⟩
set_option maxRecDepth 20000 in
theorem k_Main_liveYear {l : Launch} {X : zX} (hl : l.stackTraces = false) {h : zH} {v1 : Int32} : zGl l m_Main_liveYear X 0 0 (f_Main_liveYear h v1) (0, [some (zr (some (0, 0))), some (zi v1), none], [], h) (fun x => .inr ((fun a => (.inl (some (zi a.1)), a.2) : Int32 × zH → zF) x)) := by
  unfold f_Main_liveYear
  refine zG_run t_Main [(.iload_n 1, 0, 0)] (1, [some (zr (some (0, 0))), some (zi v1), none], [zi v1], h) (by decide +kernel) rfl ?_
  refine zG_callS (idx := 401) (R := (fun a => (some (zi a), h))) (as := [zi v1]) (rest := []) (n := 1) (fun a ha => c_Main_stir hl ha) (by decide +kernel) ⟨ok_Main_stir, by decide, by decide +kernel⟩ rfl w_368 w_369 rfl rfl (Nat.le_of_ble_eq_true rfl) fun x1 => ?_
  refine zG_run t_Main [(.istore_n 2, 0, 0), (.iload_n 2, 0, 0), (.iconst 4, 0, 0)] (7, [some (zr (some (0, 0))), some (zi v1), some (zi x1)], [zi 4, zi x1], h) (by decide +kernel) rfl ?_
  refine zG_callS (idx := 404) (R := (fun a => (some (zi a), h))) (as := [zi x1, zi 4]) (rest := []) (n := 2) (fun a ha => c_Main_draw hl ha) (by decide +kernel) ⟨ok_Main_draw, by decide, by decide +kernel⟩ rfl w_370 w_371 rfl rfl (Nat.le_of_ble_eq_true rfl) fun x2 => ?_
  refine zG_case (fun c9 => ?_) (fun c9 => ?_)
  · refine zG_tin (k := 0) (off := 26) (tgt := 36) (dflt := 116) (lo := 0) (hi := 2) (offs := #[26, 62, 80]) (len := 26) c9 (by decide +kernel) (by decide +kernel) ?_
    refine zG_run t_Main [(.iload_n 2, 0, 0)] (37, [some (zr (some (0, 0))), some (zi v1), some (zi x1)], [zi x1], h) (by decide +kernel) rfl ?_
    refine zG_callS (idx := 401) (R := (fun a => (some (zi a), h))) (as := [zi x1]) (rest := []) (n := 1) (fun a ha => c_Main_stir hl ha) (by decide +kernel) ⟨ok_Main_stir, by decide, by decide +kernel⟩ rfl w_368 w_369 rfl rfl (Nat.le_of_ble_eq_true rfl) fun x3 => ?_
    refine zG_run t_Main [(.istore_n 2, 0, 0), (.aload_n 0, 0, 0), (.getfield 19, 0, 1)] (45, [some (zr (some (0, 0))), some (zi v1), some (zi x3)], [zr (h.2.2.1 0 1)], h) (by decide +kernel) rfl ?_
    refine zG_dyn fun w4 _ => ?_
    refine zG_run t_Main [(.getfield 278, 3, 2)] (48, [some (zr (some (0, 0))), some (zi v1), some (zi x3)], [zi (h.1 w4 2)], h) (by decide +kernel) rfl ?_
    refine zG_if (op := .le) (off := 90) (tgt := 138) (by decide +kernel) rfl Iff.rfl (fun c8 => ?_) (fun c8 => ?_)
    · refine zG_run t_Main [(.iload_n 2, 0, 0)] (139, [some (zr (some (0, 0))), some (zi v1), some (zi x3)], [zi x3], h) (by decide +kernel) rfl ?_
      exact zG_ret (r := some (zi x3)) rfl (zrd_i rfl (by decide +kernel))
    · refine zG_run t_Main [(.aload_n 0, 0, 0), (.getfield 72, 0, 10), (.aload_n 0, 0, 0), (.getfield 19, 0, 1)] (59, [some (zr (some (0, 0))), some (zi v1), some (zi x3)], [zr (h.2.2.1 0 1), zr (some (8, 331))], h) (by decide +kernel) rfl ?_
      refine zG_dyn fun w5 _ => ?_
      refine zG_run t_Main [(.iload_n 2, 0, 0), (.bipush 8, 0, 0)] (62, [some (zr (some (0, 0))), some (zi v1), some (zi x3)], [zi 8, zi x3, zr (some (3, w5)), zr (some (8, 331))], h) (by decide +kernel) rfl ?_
      refine zG_callS (idx := 404) (R := (fun a => (some (zi a), h))) (as := [zi x3, zi 8]) (rest := [zr (some (3, w5)), zr (some (8, 331))]) (n := 2) (fun a ha => c_Main_draw hl ha) (by decide +kernel) ⟨ok_Main_draw, by decide, by decide +kernel⟩ rfl w_370 w_371 rfl rfl (Nat.le_of_ble_eq_true rfl) fun x6 => ?_
      refine zG_callV (idx := 281) (R := (fun a => (some (zi a.1), a.2))) (as := [zr (some (3, w5)), zi x6]) (rest := []) (n := 2) (fun a ha => c_State_shiftCells hl ha) (by decide +kernel) ⟨ok_State_shiftCells, by decide, by decide +kernel⟩ rfl w_308 w_309 w_310 (by decide) rfl rfl rfl (Nat.le_of_ble_eq_true rfl) fun x7 => ?_
      refine zG_run t_Main [(.pop, 0, 0), (.goto 69, 0, 0), (.iload_n 2, 0, 0)] (139, [some (zr (some (0, 0))), some (zi v1), some (zi x3)], [zi x3], x7.2) (by decide +kernel) rfl ?_
      exact zG_ret (r := some (zi x3)) rfl (zrd_i rfl (by decide +kernel))
  · refine zG_case (fun c12 => ?_) (fun c12 => ?_)
    · refine zG_tin (k := 1) (off := 62) (tgt := 72) (dflt := 116) (lo := 0) (hi := 2) (offs := #[26, 62, 80]) (len := 26) c12 (by decide +kernel) (by decide +kernel) ?_
      refine zG_run t_Main [(.aload_n 0, 0, 0), (.getfield 72, 0, 10), (.aload_n 0, 0, 0), (.getfield 19, 0, 1)] (80, [some (zr (some (0, 0))), some (zi v1), some (zi x1)], [zr (h.2.2.1 0 1), zr (some (8, 331))], h) (by decide +kernel) rfl ?_
      refine zG_dyn fun w10 _ => ?_
      refine zG_run t_Main [(.aload_n 0, 0, 0), (.getfield 30, 0, 3)] (84, [some (zr (some (0, 0))), some (zi v1), some (zi x1)], [zr (some (1, 74)), zr (some (3, w10)), zr (some (8, 331))], h) (by decide +kernel) rfl ?_
      refine zG_callV (idx := 284) (R := (fun a => (none, a))) (as := [zr (some (3, w10)), zr (some (1, 74))]) (rest := []) (n := 2) (fun a ha => c_State_takeLines hl ha) (by decide +kernel) ⟨ok_State_takeLines, by decide, by decide +kernel⟩ rfl w_315 w_316 w_317 (by decide) rfl rfl rfl (Nat.le_of_ble_eq_true rfl) fun x11 => ?_
      refine zG_run t_Main [(.goto 51, 0, 0), (.iload_n 2, 0, 0)] (139, [some (zr (some (0, 0))), some (zi v1), some (zi x1)], [zi x1], x11) (by decide +kernel) rfl ?_
      exact zG_ret (r := some (zi x1)) rfl (zrd_i rfl (by decide +kernel))
    · refine zG_case (fun c17 => ?_) (fun c17 => ?_)
      · refine zG_tin (k := 2) (off := 80) (tgt := 90) (dflt := 116) (lo := 0) (hi := 2) (offs := #[26, 62, 80]) (len := 26) c17 (by decide +kernel) (by decide +kernel) ?_
        refine zG_run t_Main [(.iload_n 2, 0, 0)] (91, [some (zr (some (0, 0))), some (zi v1), some (zi x1)], [zi x1], h) (by decide +kernel) rfl ?_
        refine zG_callS (idx := 401) (R := (fun a => (some (zi a), h))) (as := [zi x1]) (rest := []) (n := 1) (fun a ha => c_Main_stir hl ha) (by decide +kernel) ⟨ok_Main_stir, by decide, by decide +kernel⟩ rfl w_368 w_369 rfl rfl (Nat.le_of_ble_eq_true rfl) fun x13 => ?_
        refine zG_run t_Main [(.istore_n 2, 0, 0), (.aload_n 0, 0, 0), (.getfield 72, 0, 10), (.aload_n 0, 0, 0), (.getfield 19, 0, 1)] (103, [some (zr (some (0, 0))), some (zi v1), some (zi x13)], [zr (h.2.2.1 0 1), zr (some (8, 331))], h) (by decide +kernel) rfl ?_
        refine zG_dyn fun w14 _ => ?_
        refine zG_run t_Main [(.iload_n 2, 0, 0), (.bipush 64, 0, 0)] (106, [some (zr (some (0, 0))), some (zi v1), some (zi x13)], [zi 64, zi x13, zr (some (3, w14)), zr (some (8, 331))], h) (by decide +kernel) rfl ?_
        refine zG_callS (idx := 404) (R := (fun a => (some (zi a), h))) (as := [zi x13, zi 64]) (rest := [zr (some (3, w14)), zr (some (8, 331))]) (n := 2) (fun a ha => c_Main_draw hl ha) (by decide +kernel) ⟨ok_Main_draw, by decide, by decide +kernel⟩ rfl w_370 w_371 rfl rfl (Nat.le_of_ble_eq_true rfl) fun x15 => ?_
        refine zG_run t_Main [(.aload_n 0, 0, 0), (.getfield 30, 0, 3), (.getfield 407, 1, 1), (.iconst 1, 0, 0), (.isub, 0, 0), (.iand, 0, 0)] (119, [some (zr (some (0, 0))), some (zi v1), some (zi x13)], [zi (x15 &&& ((h.1 74 1) - 1)), zr (some (3, w14)), zr (some (8, 331))], h) (by decide +kernel) rfl ?_
        refine zG_callV (idx := 291) (R := (fun a => (some (zi a.1), a.2))) (as := [zr (some (3, w14)), zi (x15 &&& ((h.1 74 1) - 1))]) (rest := []) (n := 2) (fun a ha => c_State_loadRow hl ha) (by decide +kernel) ⟨ok_State_loadRow, by decide, by decide +kernel⟩ rfl w_325 w_326 w_327 (by decide) rfl rfl rfl (Nat.le_of_ble_eq_true rfl) fun x16 => ?_
        refine zG_run t_Main [(.pop, 0, 0), (.goto 15, 0, 0), (.iload_n 2, 0, 0)] (139, [some (zr (some (0, 0))), some (zi v1), some (zi x13)], [zi x13], x16.2) (by decide +kernel) rfl ?_
        exact zG_ret (r := some (zi x13)) rfl (zrd_i rfl (by decide +kernel))
      · have e0 : Int32.toInt x2 ≠ 0 := zne (k := 0) c9
        have e1 : Int32.toInt x2 ≠ 1 := zne (k := 1) c12
        have e2 : Int32.toInt x2 ≠ 2 := zne (k := 2) c17
        refine zG_tout (tgt := 126) (dflt := 116) (lo := 0) (hi := 2) (offs := #[26, 62, 80]) (len := 26) (by omega) (by decide +kernel) rfl ?_
        refine zG_run t_Main [(.aload_n 0, 0, 0), (.getfield 72, 0, 10), (.aload_n 0, 0, 0), (.getfield 30, 0, 3)] (134, [some (zr (some (0, 0))), some (zi v1), some (zi x1)], [zr (some (1, 74)), zr (some (8, 331))], h) (by decide +kernel) rfl ?_
        refine zG_callV (idx := 294) (R := (fun a => (some (zi a.1), a.2))) (as := [zr (some (1, 74))]) (rest := []) (n := 1) (fun a ha => c_State_applyInputs hl ha) (by decide +kernel) ⟨ok_State_applyInputs, by decide, by decide +kernel⟩ rfl w_331 w_332 w_333 (by decide) rfl rfl rfl (Nat.le_of_ble_eq_true rfl) fun x18 => ?_
        refine zG_run t_Main [(.pop, 0, 0), (.iload_n 2, 0, 0)] (139, [some (zr (some (0, 0))), some (zi v1), some (zi x1)], [zi x1], x18.2) (by decide +kernel) rfl ?_
        exact zG_ret (r := some (zi x1)) rfl (zrd_i rfl (by decide +kernel))
theorem c_Main_liveYear {l : Launch} {X : zX} (hl : l.stackTraces = false) {h : zH} {v1 : Int32} {x : Int32 × zH} (hx : f_Main_liveYear h v1 = some x) : zCt l (true, 2) 2 m_Main_liveYear X 0 0 [zr (some (0, 0)), zi v1] h ((fun a => (.inl (some (zi a.1)), a.2) : Int32 × zH → zF) x) :=
  zG_ct (R := fun a => (.inl (some (zi a.1)), a.2)) (x := x) ok_Main_liveYear hl (Nat.le_of_ble_eq_true rfl) hx (k_Main_liveYear hl)
def m_Main_years : zM := (({ cls := "ScanPacker", name := "years", desc := "(III)I" } : Jvm.MethodName), prog_1_method_32_code, 6, (Option.some Jvm.ClassFile.FieldType.int), [], 6)
theorem ok_Main_years : zMok m_Main_years := ⟨by decide +kernel, zW_of 1354 (by decide +kernel) (by decide +kernel), zW_of 122 (by decide +kernel) (by decide +kernel), by decide, by decide +kernel, by decide +kernel⟩
set_option maxRecDepth 20000 in
theorem k_Main_years_j9 {l : Launch} {X : zX} (hl : l.stackTraces = false) {h : zH} : zGl l m_Main_years X 1 6 (f_Main_years_j9 h) (9, [none, none, none, none, none, none], [], h) (fun x => .inr ((Sum.elim (fun a => (.inl (some (zi a.1)), a.2)) (fun q => (.inr q.1, q.2)) : (Int32 × zH) ⊕ (Nat × zH) → zF) x)) := by
  unfold f_Main_years_j9
  refine zG_mono (bc' := 0 + 1) (bs' := 0 + 6) (by decide) (by decide) ?_
  exact zG_throw (k := 1) (ik := 109) (ic := 111) rfl (Or.inl rfl) (by decide +kernel) (by decide +kernel) (by decide +kernel) (by decide +kernel) w_176 w_177 (by decide +kernel) (by decide +kernel) (Nat.le_of_ble_eq_true rfl) (by decide) rfl
set_option maxRecDepth 20000 in
theorem k_Main_years_j27 {l : Launch} {X : zX} (hl : l.stackTraces = false) {h : zH} : zGl l m_Main_years X 1 6 (f_Main_years_j27 h) (27, [none, none, none, none, none, none], [], h) (fun x => .inr ((Sum.elim (fun a => (.inl (some (zi a.1)), a.2)) (fun q => (.inr q.1, q.2)) : (Int32 × zH) ⊕ (Nat × zH) → zF) x)) := by
  unfold f_Main_years_j27
  refine zG_mono (bc' := 0 + 1) (bs' := 0 + 6) (by decide) (by decide) ?_
  exact zG_throw (k := 2) (ik := 92) (ic := 94) rfl (Or.inr rfl) (by decide +kernel) (by decide +kernel) (by decide +kernel) (by decide +kernel) w_3 w_4 (by decide +kernel) (by decide +kernel) (Nat.le_of_ble_eq_true rfl) (by decide) rfl
set_option maxRecDepth 20000 in
theorem k_Main_years_b63 {l : Launch} {X : zX} (hl : l.stackTraces = false) {h : zH} {v2 : Int32} {v3 : Int32} {v4 : Int32} {v5 : Int32} : zGl l m_Main_years X 0 0 (f_Main_years_b63 h v2 v3 v4 v5) (63, [some (zr (some (0, 0))), none, some (zi v2), some (zi v3), some (zi v4), some (zi v5)], [], h) (Sum.elim (fun s : Int32 × Int32 × zH => .inl (63, [some (zr (some (0, 0))), none, some (zi v2), some (zi v3), some (zi s.1), some (zi s.2.1)], [], s.2.2)) (fun y : zH => .inl (83, [some (zr (some (0, 0))), none, none, some (zi v3), none, none], [], y))) := by
  unfold f_Main_years_b63
  refine zG_run t_Main [(.iload 5, 0, 0), (.iload_n 2, 0, 0)] (66, [some (zr (some (0, 0))), none, some (zi v2), some (zi v3), some (zi v4), some (zi v5)], [zi v2, zi v5], h) (by decide +kernel) rfl ?_
  refine zG_icmp (op := .ge) (off := 17) (tgt := 83) (by decide +kernel) rfl Iff.rfl (fun c4 => ?_) (fun c4 => ?_)
  · exact zG_end (L' := [some (zr (some (0, 0))), none, none, some (zi v3), none, none]) rfl (And.intro rfl (And.intro rfl trivial))
  · refine zG_run t_Main [(.aload_n 0, 0, 0), (.iload 4, 0, 0)] (72, [some (zr (some (0, 0))), none, some (zi v2), some (zi v3), some (zi v4), some (zi v5)], [zi v4, zr (some (0, 0))], h) (by decide +kernel) rfl ?_
    refine zG_callV (idx := 359) (R := (fun a => (some (zi a.1), a.2))) (as := [zi v4]) (rest := []) (n := 1) (fun a ha => c_Main_liveYear hl ha) (by decide +kernel) ⟨ok_Main_liveYear, by decide, by decide +kernel⟩ rfl w_372 w_373 w_374 (by decide) rfl rfl rfl (Nat.le_of_ble_eq_true rfl) fun x3 => ?_
    refine zG_run t_Main [(.istore 4, 0, 0), (.iinc 5 1, 0, 0), (.goto (-17), 0, 0)] (63, [some (zr (some (0, 0))), none, some (zi v2), some (zi v3), some (zi x3.1), some (zi (v5 + 1))], [], x3.2) (by decide +kernel) rfl ?_
    exact zG_end (L' := [some (zr (some (0, 0))), none, some (zi v2), some (zi v3), some (zi x3.1), some (zi (v5 + 1))]) rfl (And.intro rfl (And.intro rfl (And.intro rfl (And.intro rfl (And.intro rfl trivial)))))
set_option maxRecDepth 20000 in
theorem k_Main_years {l : Launch} {X : zX} (hl : l.stackTraces = false) {h : zH} {v1 : Int32} {v2 : Int32} {v3 : Int32} : zGl l m_Main_years X 1 6 (f_Main_years h v1 v2 v3) (0, [some (zr (some (0, 0))), some (zi v1), some (zi v2), some (zi v3), none, none], [], h) (fun x => .inr ((Sum.elim (fun a => (.inl (some (zi a.1)), a.2)) (fun q => (.inr q.1, q.2)) : (Int32 × zH) ⊕ (Nat × zH) → zF) x)) := by
  unfold f_Main_years
  refine zG_run t_Main [(.iload_n 3, 0, 0)] (1, [some (zr (some (0, 0))), some (zi v1), some (zi v2), some (zi v3), none, none], [zi v3], h) (by decide +kernel) rfl ?_
  refine zG_if (op := .lt) (off := 8) (tgt := 9) (by decide +kernel) rfl Iff.rfl (fun c13 => ?_) (fun c13 => ?_)
  · refine zG_mono (bc' := 1) (bs' := 6) (by decide) (by decide) ?_
    exact zG_forget (L' := [none, none, none, none, none, none]) (trivial) (k_Main_years_j9 hl)
  · refine zG_run t_Main [(.iload_n 3, 0, 0), (.iconst 2, 0, 0)] (6, [some (zr (some (0, 0))), some (zi v1), some (zi v2), some (zi v3), none, none], [zi 2, zi v3], h) (by decide +kernel) rfl ?_
    refine zG_icmp (op := .le) (off := 11) (tgt := 17) (by decide +kernel) rfl Iff.rfl (fun c12 => ?_) (fun c12 => ?_)
    · refine zG_run t_Main [(.iload_n 2, 0, 0)] (18, [some (zr (some (0, 0))), some (zi v1), some (zi v2), some (zi v3), none, none], [zi v2], h) (by decide +kernel) rfl ?_
      refine zG_if (op := .lt) (off := 9) (tgt := 27) (by decide +kernel) rfl Iff.rfl (fun c11 => ?_) (fun c11 => ?_)
      · refine zG_mono (bc' := 1) (bs' := 6) (by decide) (by decide) ?_
        exact zG_forget (L' := [none, none, none, none, none, none]) (trivial) (k_Main_years_j27 hl)
      · refine zG_run t_Main [(.iload_n 2, 0, 0), (.bipush 60, 0, 0)] (24, [some (zr (some (0, 0))), some (zi v1), some (zi v2), some (zi v3), none, none], [zi 60, zi v2], h) (by decide +kernel) rfl ?_
        refine zG_icmp (op := .le) (off := 11) (tgt := 35) (by decide +kernel) rfl Iff.rfl (fun c10 => ?_) (fun c10 => ?_)
        · refine zG_run t_Main [(.aload_n 0, 0, 0), (.getfield 72, 0, 10), (.aload_n 0, 0, 0), (.getfield 58, 0, 7), (.getfield 139, 7, 0)] (46, [some (zr (some (0, 0))), some (zi v1), some (zi v2), some (zi v3), none, none], [zr (some (8, 156)), zr (some (8, 331))], h) (by decide +kernel) rfl ?_
          refine zG_callV (idx := 352) (R := (fun a => (none, a))) (as := [zr (some (8, 156))]) (rest := []) (n := 1) (fun a ha => c_State_copyFrom hl ha) (by decide +kernel) ⟨ok_State_copyFrom, by decide, by decide +kernel⟩ rfl w_366 w_301 w_302 (by decide) rfl rfl rfl (Nat.le_of_ble_eq_true rfl) fun x1 => ?_
          refine zG_bind (fun y => (57, [some (zr (some (0, 0))), some (zi v1), some (zi v2), some (zi v3), none, none], [], y)) (zG_run t_Main [(.aload_n 0, 0, 0), (.getfield 72, 0, 10), (.iconst 0, 0, 0), (.putfield 356, 8, 1)] (57, [some (zr (some (0, 0))), some (zi v1), some (zi v2), some (zi v3), none, none], [], zsI x1 331 1 0) (by decide +kernel) rfl (zG_end (L' := [some (zr (some (0, 0))), some (zi v1), some (zi v2), some (zi v3), none, none]) rfl (And.intro rfl (And.intro rfl (And.intro rfl (And.intro rfl trivial)))))) fun h2 => ?_
          refine zG_run t_Main [(.iload_n 1, 0, 0), (.istore 4, 0, 0), (.iconst 0, 0, 0), (.istore 5, 0, 0)] (63, [some (zr (some (0, 0))), some (zi v1), some (zi v2), some (zi v3), some (zi v1), some (zi 0)], [], h2) (by decide +kernel) rfl ?_
          refine zG_forget (L' := [some (zr (some (0, 0))), none, some (zi v2), some (zi v3), some (zi v1), some (zi 0)]) (And.intro rfl (And.intro rfl (And.intro rfl (And.intro rfl (And.intro rfl trivial))))) ?_
          refine zG_bind (fun y : zH => (83, [some (zr (some (0, 0))), none, none, some (zi v3), none, none], [], y)) (zG_iter (fun s : Int32 × Int32 × zH => (63, [some (zr (some (0, 0))), none, some (zi v2), some (zi v3), some (zi s.1), some (zi s.2.1)], [], s.2.2)) fun s => k_Main_years_b63 hl) (fun y6 => ?_)
          refine zG_run t_Main [(.iload_n 3, 0, 0)] (84, [some (zr (some (0, 0))), none, none, some (zi v3), none, none], [zi v3], y6) (by decide +kernel) rfl ?_
          refine zG_case (fun c8 => ?_) (fun c8 => ?_)
          · refine zG_lsw (off := 28) (tgt := 112) (dflt := 47) (ps := #[(0, 28), (1, 39)]) (len := 28) (by decide +kernel) (by decide +kernel) (by rw [c8]; decide +kernel) rfl ?_
            refine zG_run t_Main [(.aload_n 0, 0, 0), (.getfield 72, 0, 10), (.getfield 197, 8, 4)] (119, [some (zr (some (0, 0))), none, none, some (zi v3), none, none], [zl (y6.2.1 331 4)], y6) (by decide +kernel) rfl ?_
            refine zG_callS (idx := 182) (R := (fun a => (some (zi a), y6))) (as := [zl (y6.2.1 331 4)]) (rest := []) (n := 1) (fun a ha => c_Long_bitCount hl ha) (by decide +kernel) ⟨ok_Long_bitCount, by decide, by decide +kernel⟩ rfl w_181 w_182 rfl rfl (Nat.le_of_ble_eq_true rfl) fun x7 => ?_
            exact zG_ret (r := some (zi x7)) rfl (zrd_i rfl (by decide +kernel))
          · refine zG_case (fun c9 => ?_) (fun c9 => ?_)
            · refine zG_lsw (off := 39) (tgt := 123) (dflt := 47) (ps := #[(0, 28), (1, 39)]) (len := 28) (by decide +kernel) (by decide +kernel) (by rw [c9]; decide +kernel) rfl ?_
              refine zG_run t_Main [(.aload_n 0, 0, 0), (.getfield 72, 0, 10), (.getfield 356, 8, 1)] (130, [some (zr (some (0, 0))), none, none, some (zi v3), none, none], [zi (y6.1 331 1)], y6) (by decide +kernel) rfl ?_
              exact zG_ret (r := some (zi (y6.1 331 1))) rfl (zrd_i rfl (by decide +kernel))
            · have e0 : Int32.toInt v3 ≠ 0 := zne (k := 0) c8
              have e1 : Int32.toInt v3 ≠ 1 := zne (k := 1) c9
              refine zG_lsw (off := 47) (tgt := 131) (dflt := 47) (ps := #[(0, 28), (1, 39)]) (len := 28) (by decide +kernel) (by decide +kernel) (by simp [Op.lookupswitch.offset, Ne.symm e0, Ne.symm e1, e0, e1] <;> rfl) rfl ?_
              refine zG_run t_Main [(.aload_n 0, 0, 0), (.getfield 72, 0, 10), (.getfield 145, 8, 0)] (138, [some (zr (some (0, 0))), none, none, some (zi v3), none, none], [zi (y6.1 331 0)], y6) (by decide +kernel) rfl ?_
              exact zG_ret (r := some (zi (y6.1 331 0))) rfl (zrd_i rfl (by decide +kernel))
        · refine zG_mono (bc' := 1) (bs' := 6) (by decide) (by decide) ?_
          exact zG_forget (L' := [none, none, none, none, none, none]) (trivial) (k_Main_years_j27 hl)
    · refine zG_mono (bc' := 1) (bs' := 6) (by decide) (by decide) ?_
      exact zG_forget (L' := [none, none, none, none, none, none]) (trivial) (k_Main_years_j9 hl)
theorem c_Main_years {l : Launch} {X : zX} (hl : l.stackTraces = false) {h : zH} {v1 : Int32} {v2 : Int32} {v3 : Int32} {x : (Int32 × zH) ⊕ (Nat × zH)} (hx : f_Main_years h v1 v2 v3 = some x) : zCt l (true, 2) 2 m_Main_years X 1 6 [zr (some (0, 0)), zi v1, zi v2, zi v3] h ((Sum.elim (fun a => (.inl (some (zi a.1)), a.2)) (fun q => (.inr q.1, q.2)) : (Int32 × zH) ⊕ (Nat × zH) → zF) x) :=
  zG_ct (R := Sum.elim (fun a => (.inl (some (zi a.1)), a.2)) (fun q => (.inr q.1, q.2))) (x := x) ok_Main_years hl (Nat.le_of_ble_eq_true rfl) hx (k_Main_years hl)
def m_Session_copyFrom : zM := (({ cls := "ScanPacker$Session", name := "copyFrom", desc := "(LScanPacker$Session;)V" } : Jvm.MethodName), prog_8_method_3_code, 3, (Option.none : Option Jvm.ClassFile.FieldType), [], 2)
theorem ok_Session_copyFrom : zMok m_Session_copyFrom := ⟨by decide +kernel, zW_of 869 (by decide +kernel) (by decide +kernel), zW_of 131 (by decide +kernel) (by decide +kernel), by decide, by decide +kernel, by decide +kernel⟩
set_option maxRecDepth 20000 in
theorem k_Session_copyFrom_b13 {l : Launch} {X : zX} (hl : l.stackTraces = false) {o : Nat} {o1 : Nat} {h : zH} {v2 : Int32} : zGl l m_Session_copyFrom X 0 0 (f_Session_copyFrom_b13 o o1 h v2) (13, [some (zr (some (7, o))), some (zr (some (7, o1))), some (zi v2)], [], h) (Sum.elim (fun s : Int32 × zH => .inl (13, [some (zr (some (7, o))), some (zr (some (7, o1))), some (zi s.1)], [], s.2)) (fun y : zH => .inl (40, [some (zr (some (7, o))), some (zr (some (7, o1))), none], [], y))) := by
  unfold f_Session_copyFrom_b13
  refine zG_run t_Session [(.iload_n 2, 0, 0), (.bipush 40, 0, 0)] (16, [some (zr (some (7, o))), some (zr (some (7, o1))), some (zi v2)], [zi 40, zi v2], h) (by decide +kernel) rfl ?_
  refine zG_icmp (op := .ge) (off := 24) (tgt := 40) (by decide +kernel) rfl Iff.rfl (fun c5 => ?_) (fun c5 => ?_)
  · exact zG_end (L' := [some (zr (some (7, o))), some (zr (some (7, o1))), none]) rfl (And.intro rfl (And.intro rfl trivial))
  · refine zG_run t_Session [(.aload_n 0, 0, 0), (.getfield 18, 7, 1), (.iload_n 2, 0, 0)] (24, [some (zr (some (7, o))), some (zr (some (7, o1))), some (zi v2)], [zi v2, zr (some (55, (o + 3)))], h) (by decide +kernel) rfl ?_
    refine zG_ald (v := zr (some (8, ((o + 3) + (5 + 2 * v2.toNatClampNeg))))) (n := 40) rfl (by decide +kernel) rfl rfl fun hb2 => ?_
    refine zG_run t_Session [(.aload_n 1, 0, 0), (.getfield 18, 7, 1), (.iload_n 2, 0, 0)] (30, [some (zr (some (7, o))), some (zr (some (7, o1))), some (zi v2)], [zi v2, zr (some (55, (o1 + 3))), zr (some (8, ((o + 3) + (5 + 2 * v2.toNatClampNeg))))], h) (by decide +kernel) rfl ?_
    refine zG_ald (v := zr (some (8, ((o1 + 3) + (5 + 2 * v2.toNatClampNeg))))) (n := 40) rfl (by decide +kernel) rfl rfl fun hb3 => ?_
    refine zG_callV (idx := 49) (R := (fun a => (none, a))) (as := [zr (some (8, ((o1 + 3) + (5 + 2 * v2.toNatClampNeg))))]) (rest := []) (n := 1) (fun a ha => c_State_copyFrom hl ha) (by decide +kernel) ⟨ok_State_copyFrom, by decide, by decide +kernel⟩ rfl w_300 w_301 w_302 (by decide) rfl rfl rfl (Nat.le_of_ble_eq_true rfl) fun x4 => ?_
    refine zG_run t_Session [(.iinc 2 1, 0, 0), (.goto (-24), 0, 0)] (13, [some (zr (some (7, o))), some (zr (some (7, o1))), some (zi (v2 + 1))], [], x4) (by decide +kernel) rfl ?_
    exact zG_end (L' := [some (zr (some (7, o))), some (zr (some (7, o1))), some (zi (v2 + 1))]) rfl (And.intro rfl (And.intro rfl (And.intro rfl trivial)))
set_option maxRecDepth 20000 in
theorem k_Session_copyFrom_b58 {l : Launch} {X : zX} (hl : l.stackTraces = false) {o : Nat} {o1 : Nat} {h : zH} {v2 : Int32} : zGl l m_Session_copyFrom X 0 0 (f_Session_copyFrom_b58 o o1 h v2) (58, [some (zr (some (7, o))), some (zr (some (7, o1))), some (zi v2)], [], h) (Sum.elim (fun s : Int32 × zH => .inl (58, [some (zr (some (7, o))), some (zr (some (7, o1))), some (zi s.1)], [], s.2)) (fun y : zH => .inl (106, [some (zr (some (7, o))), some (zr (some (7, o1))), none], [], y))) := by
  unfold f_Session_copyFrom_b58
  refine zG_run t_Session [(.iload_n 2, 0, 0), (.bipush 10, 0, 0)] (61, [some (zr (some (7, o))), some (zr (some (7, o1))), some (zi v2)], [zi 10, zi v2], h) (by decide +kernel) rfl ?_
  refine zG_icmp (op := .ge) (off := 45) (tgt := 106) (by decide +kernel) rfl Iff.rfl (fun c19 => ?_) (fun c19 => ?_)
  · exact zG_end (L' := [some (zr (some (7, o))), some (zr (some (7, o1))), none]) rfl (And.intro rfl (And.intro rfl trivial))
  · refine zG_run t_Session [(.aload_n 0, 0, 0), (.getfield 22, 7, 4), (.iload_n 2, 0, 0), (.aload_n 1, 0, 0), (.getfield 22, 7, 4), (.iload_n 2, 0, 0)] (74, [some (zr (some (7, o))), some (zr (some (7, o1))), some (zi v2)], [zi v2, zr (some (56, (o1 + 4))), zi v2, zr (some (56, (o + 4)))], h) (by decide +kernel) rfl ?_
    refine zG_ald (v := zi (h.1 (o1 + 4) v2.toNatClampNeg)) (n := 10) rfl (by decide +kernel) rfl rfl fun hb10 => ?_
    refine zG_guard fun hb12 => ?_
    refine zG_bind (fun y => (76, [some (zr (some (7, o))), some (zr (some (7, o1))), some (zi v2)], [], y)) (zG_astc (h' := zsI h (o + 4) v2.toNatClampNeg (h.1 (o1 + 4) v2.toNatClampNeg)) rfl (by decide +kernel) hb12 rfl (zG_end (L' := [some (zr (some (7, o))), some (zr (some (7, o1))), some (zi v2)]) rfl (And.intro rfl (And.intro rfl (And.intro rfl trivial))))) fun h11 => ?_
    refine zG_run t_Session [(.aload_n 0, 0, 0), (.getfield 26, 7, 5), (.iload_n 2, 0, 0), (.aload_n 1, 0, 0), (.getfield 26, 7, 5), (.iload_n 2, 0, 0)] (86, [some (zr (some (7, o))), some (zr (some (7, o1))), some (zi v2)], [zi v2, zr (some (57, (o1 + 5))), zi v2, zr (some (57, (o + 5)))], h11) (by decide +kernel) rfl ?_
    refine zG_ald (v := zi (h11.1 (o1 + 5) v2.toNatClampNeg)) (n := 10) rfl (by decide +kernel) rfl rfl fun hb13 => ?_
    refine zG_guard fun hb15 => ?_
    refine zG_bind (fun y => (88, [some (zr (some (7, o))), some (zr (some (7, o1))), some (zi v2)], [], y)) (zG_astc (h' := zsI h11 (o + 5) v2.toNatClampNeg (h11.1 (o1 + 5) v2.toNatClampNeg)) rfl (by decide +kernel) hb15 rfl (zG_end (L' := [some (zr (some (7, o))), some (zr (some (7, o1))), some (zi v2)]) rfl (And.intro rfl (And.intro rfl (And.intro rfl trivial))))) fun h14 => ?_
    refine zG_run t_Session [(.aload_n 0, 0, 0), (.getfield 29, 7, 6), (.iload_n 2, 0, 0), (.aload_n 1, 0, 0), (.getfield 29, 7, 6), (.iload_n 2, 0, 0)] (98, [some (zr (some (7, o))), some (zr (some (7, o1))), some (zi v2)], [zi v2, zr (some (58, (o1 + 6))), zi v2, zr (some (58, (o + 6)))], h14) (by decide +kernel) rfl ?_
    refine zG_ald (v := zi (h14.1 (o1 + 6) v2.toNatClampNeg)) (n := 10) rfl (by decide +kernel) rfl rfl fun hb16 => ?_
    refine zG_guard fun hb18 => ?_
    refine zG_bind (fun y => (100, [some (zr (some (7, o))), some (zr (some (7, o1))), some (zi v2)], [], y)) (zG_astc (h' := zsI h14 (o + 6) v2.toNatClampNeg (h14.1 (o1 + 6) v2.toNatClampNeg)) rfl (by decide +kernel) hb18 rfl (zG_end (L' := [some (zr (some (7, o))), some (zr (some (7, o1))), some (zi v2)]) rfl (And.intro rfl (And.intro rfl (And.intro rfl trivial))))) fun h17 => ?_
    refine zG_run t_Session [(.iinc 2 1, 0, 0), (.goto (-45), 0, 0)] (58, [some (zr (some (7, o))), some (zr (some (7, o1))), some (zi (v2 + 1))], [], h17) (by decide +kernel) rfl ?_
    exact zG_end (L' := [some (zr (some (7, o))), some (zr (some (7, o1))), some (zi (v2 + 1))]) rfl (And.intro rfl (And.intro rfl (And.intro rfl trivial)))
set_option maxRecDepth 20000 in
theorem k_Session_copyFrom_b116 {l : Launch} {X : zX} (hl : l.stackTraces = false) {o : Nat} {o1 : Nat} {h : zH} {v2 : Int32} : zGl l m_Session_copyFrom X 0 0 (f_Session_copyFrom_b116 o o1 h v2) (116, [some (zr (some (7, o))), some (zr (some (7, o1))), some (zi v2)], [], h) (Sum.elim (fun s : Int32 × zH => .inl (116, [some (zr (some (7, o))), some (zr (some (7, o1))), some (zi s.1)], [], s.2)) (fun y : zH => .inl (143, [none, none, none], [], y))) := by
  unfold f_Session_copyFrom_b116
  refine zG_run t_Session [(.iload_n 2, 0, 0), (.aload_n 0, 0, 0), (.getfield 32, 7, 8)] (121, [some (zr (some (7, o))), some (zr (some (7, o1))), some (zi v2)], [zr (some (59, (o + 7))), zi v2], h) (by decide +kernel) rfl ?_
  refine zG_alen (v := 3) rfl (by decide +kernel) rfl ?_
  refine zG_icmp (op := .ge) (off := 21) (tgt := 143) (by decide +kernel) rfl Iff.rfl (fun c26 => ?_) (fun c26 => ?_)
  · exact zG_end (L' := [none, none, none]) rfl (trivial)
  · refine zG_run t_Session [(.aload_n 0, 0, 0), (.getfield 32, 7, 8), (.iload_n 2, 0, 0), (.aload_n 1, 0, 0), (.getfield 32, 7, 8), (.iload_n 2, 0, 0)] (135, [some (zr (some (7, o))), some (zr (some (7, o1))), some (zi v2)], [zi v2, zr (some (59, (o1 + 7))), zi v2, zr (some (59, (o + 7)))], h) (by decide +kernel) rfl ?_
    refine zG_ald (v := zi (h.1 (o1 + 7) v2.toNatClampNeg)) (n := 3) rfl (by decide +kernel) rfl rfl fun hb23 => ?_
    refine zG_guard fun hb25 => ?_
    refine zG_bind (fun y => (137, [some (zr (some (7, o))), some (zr (some (7, o1))), some (zi v2)], [], y)) (zG_astc (h' := zsI h (o + 7) v2.toNatClampNeg (h.1 (o1 + 7) v2.toNatClampNeg)) rfl (by decide +kernel) hb25 rfl (zG_end (L' := [some (zr (some (7, o))), some (zr (some (7, o1))), some (zi v2)]) rfl (And.intro rfl (And.intro rfl (And.intro rfl trivial))))) fun h24 => ?_
    refine zG_run t_Session [(.iinc 2 1, 0, 0), (.goto (-24), 0, 0)] (116, [some (zr (some (7, o))), some (zr (some (7, o1))), some (zi (v2 + 1))], [], h24) (by decide +kernel) rfl ?_
    exact zG_end (L' := [some (zr (some (7, o))), some (zr (some (7, o1))), some (zi (v2 + 1))]) rfl (And.intro rfl (And.intro rfl (And.intro rfl trivial)))
set_option maxRecDepth 20000 in
theorem k_Session_copyFrom {l : Launch} {X : zX} (hl : l.stackTraces = false) {o : Nat} {o1 : Nat} {h : zH} : zGl l m_Session_copyFrom X 0 0 (f_Session_copyFrom o o1 h) (0, [some (zr (some (7, o))), some (zr (some (7, o1))), none], [], h) (fun x => .inr ((fun a => (.inl none, a) : zH → zF) x)) := by
  unfold f_Session_copyFrom
  refine zG_run t_Session [(.aload_n 0, 0, 0), (.getfield 12, 7, 0), (.aload_n 1, 0, 0), (.getfield 12, 7, 0)] (8, [some (zr (some (7, o))), some (zr (some (7, o1))), none], [zr (some (8, (o1 + 1))), zr (some (8, (o + 1)))], h) (by decide +kernel) rfl ?_
  refine zG_callV (idx := 49) (R := (fun a => (none, a))) (as := [zr (some (8, (o1 + 1)))]) (rest := []) (n := 1) (fun a ha => c_State_copyFrom hl ha) (by decide +kernel) ⟨ok_State_copyFrom, by decide, by decide +kernel⟩ rfl w_300 w_301 w_302 (by decide) rfl rfl rfl (Nat.le_of_ble_eq_true rfl) fun x1 => ?_
  refine zG_run t_Session [(.iconst 0, 0, 0), (.istore_n 2, 0, 0)] (13, [some (zr (some (7, o))), some (zr (some (7, o1))), some (zi 0)], [], x1) (by decide +kernel) rfl ?_
  refine zG_forget (L' := [some (zr (some (7, o))), some (zr (some (7, o1))), some (zi 0)]) (And.intro rfl (And.intro rfl (And.intro rfl trivial))) ?_
  refine zG_bind (fun y : zH => (40, [some (zr (some (7, o))), some (zr (some (7, o1))), none], [], y)) (zG_iter (fun s : Int32 × zH => (13, [some (zr (some (7, o))), some (zr (some (7, o1))), some (zi s.1)], [], s.2)) fun s => k_Session_copyFrom_b13 hl) (fun y7 => ?_)
  refine zG_bind (fun y => (48, [some (zr (some (7, o))), some (zr (some (7, o1))), none], [], y)) (zG_run t_Session [(.aload_n 0, 0, 0), (.aload_n 1, 0, 0), (.getfield 39, 7, 2), (.putfield 39, 7, 2)] (48, [some (zr (some (7, o))), some (zr (some (7, o1))), none], [], zsI y7 o 2 (y7.1 o1 2)) (by decide +kernel) rfl (zG_end (L' := [some (zr (some (7, o))), some (zr (some (7, o1))), none]) rfl (And.intro rfl (And.intro rfl trivial)))) fun h8 => ?_
  refine zG_bind (fun y => (56, [some (zr (some (7, o))), some (zr (some (7, o1))), none], [], y)) (zG_run t_Session [(.aload_n 0, 0, 0), (.aload_n 1, 0, 0), (.getfield 43, 7, 3), (.putfield 43, 7, 3)] (56, [some (zr (some (7, o))), some (zr (some (7, o1))), none], [], zsI h8 o 3 (h8.1 o1 3)) (by decide +kernel) rfl (zG_end (L' := [some (zr (some (7, o))), some (zr (some (7, o1))), none]) rfl (And.intro rfl (And.intro rfl trivial)))) fun h9 => ?_
  refine zG_run t_Session [(.iconst 0, 0, 0), (.istore_n 2, 0, 0)] (58, [some (zr (some (7, o))), some (zr (some (7, o1))), some (zi 0)], [], h9) (by decide +kernel) rfl ?_
  refine zG_forget (L' := [some (zr (some (7, o))), some (zr (some (7, o1))), some (zi 0)]) (And.intro rfl (And.intro rfl (And.intro rfl trivial))) ?_
  refine zG_bind (fun y : zH => (106, [some (zr (some (7, o))), some (zr (some (7, o1))), none], [], y)) (zG_iter (fun s : Int32 × zH => (58, [some (zr (some (7, o))), some (zr (some (7, o1))), some (zi s.1)], [], s.2)) fun s => k_Session_copyFrom_b58 hl) (fun y21 => ?_)
  refine zG_bind (fun y => (114, [some (zr (some (7, o))), some (zr (some (7, o1))), none], [], y)) (zG_run t_Session [(.aload_n 0, 0, 0), (.aload_n 1, 0, 0), (.getfield 46, 7, 7), (.putfield 46, 7, 7)] (114, [some (zr (some (7, o))), some (zr (some (7, o1))), none], [], zsI y21 o 7 (y21.1 o1 7)) (by decide +kernel) rfl (zG_end (L' := [some (zr (some (7, o))), some (zr (some (7, o1))), none]) rfl (And.intro rfl (And.intro rfl trivial)))) fun h22 => ?_
  refine zG_run t_Session [(.iconst 0, 0, 0), (.istore_n 2, 0, 0)] (116, [some (zr (some (7, o))), some (zr (some (7, o1))), some (zi 0)], [], h22) (by decide +kernel) rfl ?_
  refine zG_forget (L' := [some (zr (some (7, o))), some (zr (some (7, o1))), some (zi 0)]) (And.intro rfl (And.intro rfl (And.intro rfl trivial))) ?_
  refine zG_bind (fun y : zH => (143, [none, none, none], [], y)) (zG_iter (fun s : Int32 × zH => (116, [some (zr (some (7, o))), some (zr (some (7, o1))), some (zi s.1)], [], s.2)) fun s => k_Session_copyFrom_b116 hl) (fun y28 => ?_)
  exact zG_ret (r := none) rfl (zrd_v rfl (by decide +kernel))
theorem c_Session_copyFrom {l : Launch} {X : zX} (hl : l.stackTraces = false) {o : Nat} {o1 : Nat} {h : zH} {x : zH} (hx : f_Session_copyFrom o o1 h = some x) : zCt l (true, 2) 2 m_Session_copyFrom X 0 0 [zr (some (7, o)), zr (some (7, o1))] h ((fun a => (.inl none, a) : zH → zF) x) :=
  zG_ct (R := fun a => (.inl none, a)) (x := x) ok_Session_copyFrom hl (Nat.le_of_ble_eq_true rfl) hx (k_Session_copyFrom hl)
def m_Main_image : zM := (({ cls := "ScanPacker", name := "image", desc := "()V" } : Jvm.MethodName), prog_1_method_33_code, 1, (Option.none : Option Jvm.ClassFile.FieldType), [], 3)
theorem ok_Main_image : zMok m_Main_image := ⟨by decide +kernel, zW_of 865 (by decide +kernel) (by decide +kernel), zW_of 122 (by decide +kernel) (by decide +kernel), by decide, by decide +kernel, by decide +kernel⟩
set_option maxRecDepth 20000 in
theorem k_Main_image {l : Launch} {X : zX} (hl : l.stackTraces = false) {h : zH} : zGl l m_Main_image X 0 0 (f_Main_image h) (0, [some (zr (some (0, 0)))], [], h) (fun x => .inr ((fun a => (.inl none, a) : zH → zF) x)) := by
  unfold f_Main_image
  refine zG_run t_Main [(.aload_n 0, 0, 0), (.getfield 62, 0, 8), (.aload_n 0, 0, 0), (.getfield 58, 0, 7)] (8, [some (zr (some (0, 0)))], [zr (some (7, 155)), zr (some (7, 243))], h) (by decide +kernel) rfl ?_
  refine zG_callV (idx := 362) (R := (fun a => (none, a))) (as := [zr (some (7, 155))]) (rest := []) (n := 1) (fun a ha => c_Session_copyFrom hl ha) (by decide +kernel) ⟨ok_Session_copyFrom, by decide, by decide +kernel⟩ rfl w_375 w_376 w_377 (by decide) rfl rfl rfl (Nat.le_of_ble_eq_true rfl) fun x1 => ?_
  refine zG_bind (fun y => (16, [some (zr (some (0, 0)))], [], y)) (zG_run t_Main [(.aload_n 0, 0, 0), (.iconst 1, 0, 0), (.putfield 65, 0, 9)] (16, [some (zr (some (0, 0)))], [], zsI x1 0 9 1) (by decide +kernel) rfl (zG_end (L' := [some (zr (some (0, 0)))]) rfl (And.intro rfl trivial))) fun h2 => ?_
  exact zG_ret (r := none) rfl (zrd_v rfl (by decide +kernel))
theorem c_Main_image {l : Launch} {X : zX} (hl : l.stackTraces = false) {h : zH} {x : zH} (hx : f_Main_image h = some x) : zCt l (true, 2) 2 m_Main_image X 0 0 [zr (some (0, 0))] h ((fun a => (.inl none, a) : zH → zF) x) :=
  zG_ct (R := fun a => (.inl none, a)) (x := x) ok_Main_image hl (Nat.le_of_ble_eq_true rfl) hx (k_Main_image hl)
def m_Main_restore : zM := (({ cls := "ScanPacker", name := "restore", desc := "()Z" } : Jvm.MethodName), prog_1_method_34_code, 1, (Option.some Jvm.ClassFile.FieldType.boolean), [], 3)
theorem ok_Main_restore : zMok m_Main_restore := ⟨by decide +kernel, zW_of 873 (by decide +kernel) (by decide +kernel), zW_of 122 (by decide +kernel) (by decide +kernel), by decide, by decide +kernel, by decide +kernel⟩
set_option maxRecDepth 20000 in
theorem k_Main_restore {l : Launch} {X : zX} (hl : l.stackTraces = false) {h : zH} : zGl l m_Main_restore X 0 0 (f_Main_restore h) (0, [some (zr (some (0, 0)))], [], h) (fun x => .inr ((fun a => (.inl (some (zi a.1)), a.2) : Int32 × zH → zF) x)) := by
  unfold f_Main_restore
  refine zG_run t_Main [(.aload_n 0, 0, 0), (.getfield 65, 0, 9)] (4, [some (zr (some (0, 0)))], [zi (h.1 0 9)], h) (by decide +kernel) rfl ?_
  refine zG_if (op := .ne) (off := 5) (tgt := 9) (by decide +kernel) rfl Iff.rfl (fun c2 => ?_) (fun c2 => ?_)
  · refine zG_run t_Main [(.aload_n 0, 0, 0), (.getfield 58, 0, 7), (.aload_n 0, 0, 0), (.getfield 62, 0, 8)] (17, [some (zr (some (0, 0)))], [zr (some (7, 243)), zr (some (7, 155))], h) (by decide +kernel) rfl ?_
    refine zG_callV (idx := 362) (R := (fun a => (none, a))) (as := [zr (some (7, 243))]) (rest := []) (n := 1) (fun a ha => c_Session_copyFrom hl ha) (by decide +kernel) ⟨ok_Session_copyFrom, by decide, by decide +kernel⟩ rfl w_375 w_376 w_377 (by decide) rfl rfl rfl (Nat.le_of_ble_eq_true rfl) fun x1 => ?_
    refine zG_run t_Main [(.iconst 1, 0, 0)] (21, [some (zr (some (0, 0)))], [zi 1], x1) (by decide +kernel) rfl ?_
    exact zG_ret (r := some (zi 1)) rfl (zrd_z rfl (by decide +kernel) rfl)
  · refine zG_run t_Main [(.iconst 0, 0, 0)] (8, [some (zr (some (0, 0)))], [zi 0], h) (by decide +kernel) rfl ?_
    exact zG_ret (r := some (zi 0)) rfl (zrd_z rfl (by decide +kernel) rfl)
theorem c_Main_restore {l : Launch} {X : zX} (hl : l.stackTraces = false) {h : zH} {x : Int32 × zH} (hx : f_Main_restore h = some x) : zCt l (true, 2) 2 m_Main_restore X 0 0 [zr (some (0, 0))] h ((fun a => (.inl (some (zi a.1)), a.2) : Int32 × zH → zF) x) :=
  zG_ct (R := fun a => (.inl (some (zi a.1)), a.2)) (x := x) ok_Main_restore hl (Nat.le_of_ble_eq_true rfl) hx (k_Main_restore hl)
def m_Mod_thrown : zM := (({ cls := "ScanPackerModel", name := "thrown", desc := "()I" } : Jvm.MethodName), prog_13_method_2_code, 1, (Option.some Jvm.ClassFile.FieldType.int), [], 1)
theorem ok_Mod_thrown : zMok m_Mod_thrown := ⟨by decide +kernel, zW_of 1634 (by decide +kernel) (by decide +kernel), zW_of 134 (by decide +kernel) (by decide +kernel), by decide, by decide +kernel, by decide +kernel⟩
set_option maxRecDepth 20000 in
theorem k_Mod_thrown {l : Launch} {X : zX} (hl : l.stackTraces = false) {h : zH} : zGl l m_Mod_thrown X 0 0 (f_Mod_thrown h) (0, [some (zr (some (11, 333)))], [], h) (fun x => .inr ((fun a => (.inl (some (zi a)), h) : Int32 → zF) x)) := by
  unfold f_Mod_thrown
  refine zG_run t_Mod [(.aload_n 0, 0, 0), (.getfield 181, 11, 2)] (4, [some (zr (some (11, 333)))], [zi (h.1 333 2)], h) (by decide +kernel) rfl ?_
  exact zG_ret (r := some (zi (h.1 333 2))) rfl (zrd_i rfl (by decide +kernel))
theorem c_Mod_thrown {l : Launch} {X : zX} (hl : l.stackTraces = false) {h : zH} {x : Int32} (hx : f_Mod_thrown h = some x) : zCt l (true, 2) 2 m_Mod_thrown X 0 0 [zr (some (11, 333))] h ((fun a => (.inl (some (zi a)), h) : Int32 → zF) x) :=
  zG_ct (R := fun a => (.inl (some (zi a)), h)) (x := x) ok_Mod_thrown hl (Nat.le_of_ble_eq_true rfl) hx (k_Mod_thrown hl)
def m_Mod_feed : zM := (({ cls := "ScanPackerModel", name := "feed", desc := "(IIIII)I" } : Jvm.MethodName), prog_13_method_7_code, 8, (Option.some Jvm.ClassFile.FieldType.int), [], 1)
theorem ok_Mod_feed : zMok m_Mod_feed := ⟨by decide +kernel, zW_of 1638 (by decide +kernel) (by decide +kernel), zW_of 134 (by decide +kernel) (by decide +kernel), by decide, by decide +kernel, by decide +kernel⟩
set_option maxRecDepth 20000 in
theorem k_Mod_feed_j76 {l : Launch} {X : zX} (hl : l.stackTraces = false) {h : zH} {v1 : Int32} {v2 : Int32} {v3 : Int32} {v4 : Int32} {v5 : Int32} {v6 : Int32} {t0 : Int32} : zGl l m_Mod_feed X 0 0 (f_Mod_feed_j76 h v1 v2 v3 v4 v5 v6 t0) (76, [some (zr (some (11, 333))), some (zi v1), some (zi v2), some (zi v3), some (zi v4), some (zi v5), some (zi v6), none], [zi t0], h) (Sum.elim (fun s : Int32 × zH => .inl (23, [some (zr (some (11, 333))), some (zi v1), some (zi v2), some (zi v3), some (zi v4), some (zi v5), some (zi s.1), none], [], s.2)) (fun y : zH => .inl (120, [some (zr (some (11, 333))), none, none, none, none, none, none, none], [], y))) := by
  unfold f_Mod_feed_j76
  refine zG_run t_Mod [(.istore 7, 0, 0), (.aload_n 0, 0, 0), (.getfield 80, 11, 16), (.aload_n 0, 0, 0), (.getfield 184, 11, 17), (.iload 7, 0, 0), (.bipush 24, 0, 0), (.bipush 8, 0, 0), (.iload 6, 0, 0), (.iconst 4, 0, 0)] (95, [some (zr (some (11, 333))), some (zi v1), some (zi v2), some (zi v3), some (zi v4), some (zi v5), some (zi v6), some (zi t0)], [zi 4, zi v6, zi 8, zi 24, zi t0, zi (h.1 333 17), zr (some (75, 349))], h) (by decide +kernel) rfl ?_
  refine zG_iremc (by decide +kernel) (by decide) ?_
  refine zG_run t_Mod [(.imul, 0, 0), (.isub, 0, 0), (.ishr, 0, 0), (.sipush 255, 0, 0), (.iand, 0, 0)] (103, [some (zr (some (11, 333))), some (zi v1), some (zi v2), some (zi v3), some (zi v4), some (zi v5), some (zi v6), some (zi t0)], [zi ((zshr t0 (24 - (8 * (zrem v6 4)))) &&& 255), zi (h.1 333 17), zr (some (75, 349))], h) (by decide +kernel) rfl ?_
  refine zG_guard fun hb3 => ?_
  refine zG_bind (fun y => (104, [some (zr (some (11, 333))), some (zi v1), some (zi v2), some (zi v3), some (zi v4), some (zi v5), some (zi v6), some (zi t0)], [], y)) (zG_astc (h' := zsI h 349 (h.1 333 17).toNatClampNeg ((zshr t0 (24 - (8 * (zrem v6 4)))) &&& 255)) rfl (by decide +kernel) hb3 rfl (zG_end (L' := [some (zr (some (11, 333))), some (zi v1), some (zi v2), some (zi v3), some (zi v4), some (zi v5), some (zi v6), some (zi t0)]) rfl (And.intro rfl (And.intro rfl (And.intro rfl (And.intro rfl (And.intro rfl (And.intro rfl (And.intro rfl (And.intro rfl trivial)))))))))) fun h2 => ?_
  refine zG_bind (fun y => (114, [some (zr (some (11, 333))), some (zi v1), some (zi v2), some (zi v3), some (zi v4), some (zi v5), some (zi v6), some (zi t0)], [], y)) (zG_run t_Mod [(.aload_n 0, 0, 0), (.dup, 0, 0), (.getfield 184, 11, 17), (.iconst 1, 0, 0), (.iadd, 0, 0), (.putfield 184, 11, 17)] (114, [some (zr (some (11, 333))), some (zi v1), some (zi v2), some (zi v3), some (zi v4), some (zi v5), some (zi v6), some (zi t0)], [], zsI h2 333 17 ((h2.1 333 17) + 1)) (by decide +kernel) rfl (zG_end (L' := [some (zr (some (11, 333))), some (zi v1), some (zi v2), some (zi v3), some (zi v4), some (zi v5), some (zi v6), some (zi t0)]) rfl (And.intro rfl (And.intro rfl (And.intro rfl (And.intro rfl (And.intro rfl (And.intro rfl (And.intro rfl (And.intro rfl trivial)))))))))) fun h4 => ?_
  refine zG_run t_Mod [(.iinc 6 1, 0, 0), (.goto (-94), 0, 0)] (23, [some (zr (some (11, 333))), some (zi v1), some (zi v2), some (zi v3), some (zi v4), some (zi v5), some (zi (v6 + 1)), some (zi t0)], [], h4) (by decide +kernel) rfl ?_
  exact zG_end (L' := [some (zr (some (11, 333))), some (zi v1), some (zi v2), some (zi v3), some (zi v4), some (zi v5), some (zi (v6 + 1)), none]) rfl (And.intro rfl (And.intro rfl (And.intro rfl (And.intro rfl (And.intro rfl (And.intro rfl (And.intro rfl trivial)))))))
set_option maxRecDepth 20000 in
theorem k_Mod_feed_b23 {l : Launch} {X : zX} (hl : l.stackTraces = false) {h : zH} {v1 : Int32} {v2 : Int32} {v3 : Int32} {v4 : Int32} {v5 : Int32} {v6 : Int32} : zGl l m_Mod_feed X 0 0 (f_Mod_feed_b23 h v1 v2 v3 v4 v5 v6) (23, [some (zr (some (11, 333))), some (zi v1), some (zi v2), some (zi v3), some (zi v4), some (zi v5), some (zi v6), none], [], h) (Sum.elim (fun s : Int32 × zH => .inl (23, [some (zr (some (11, 333))), some (zi v1), some (zi v2), some (zi v3), some (zi v4), some (zi v5), some (zi s.1), none], [], s.2)) (fun y : zH => .inl (120, [some (zr (some (11, 333))), none, none, none, none, none, none, none], [], y))) := by
  unfold f_Mod_feed_b23
  refine zG_run t_Mod [(.iload 6, 0, 0), (.bipush 20, 0, 0)] (27, [some (zr (some (11, 333))), some (zi v1), some (zi v2), some (zi v3), some (zi v4), some (zi v5), some (zi v6), none], [zi 20, zi v6], h) (by decide +kernel) rfl ?_
  refine zG_icmp (op := .ge) (off := 93) (tgt := 120) (by decide +kernel) rfl Iff.rfl (fun c9 => ?_) (fun c9 => ?_)
  · exact zG_end (L' := [some (zr (some (11, 333))), none, none, none, none, none, none, none]) rfl (And.intro rfl trivial)
  · refine zG_run t_Mod [(.iload 6, 0, 0), (.iconst 4, 0, 0)] (33, [some (zr (some (11, 333))), some (zi v1), some (zi v2), some (zi v3), some (zi v4), some (zi v5), some (zi v6), none], [zi 4, zi v6], h) (by decide +kernel) rfl ?_
    refine zG_icmp (op := .ge) (off := 7) (tgt := 40) (by decide +kernel) rfl Iff.rfl (fun c8 => ?_) (fun c8 => ?_)
    · refine zG_run t_Mod [(.iload 6, 0, 0), (.bipush 8, 0, 0)] (44, [some (zr (some (11, 333))), some (zi v1), some (zi v2), some (zi v3), some (zi v4), some (zi v5), some (zi v6), none], [zi 8, zi v6], h) (by decide +kernel) rfl ?_
      refine zG_icmp (op := .ge) (off := 7) (tgt := 51) (by decide +kernel) rfl Iff.rfl (fun c7 => ?_) (fun c7 => ?_)
      · refine zG_run t_Mod [(.iload 6, 0, 0), (.bipush 12, 0, 0)] (55, [some (zr (some (11, 333))), some (zi v1), some (zi v2), some (zi v3), some (zi v4), some (zi v5), some (zi v6), none], [zi 12, zi v6], h) (by decide +kernel) rfl ?_
        refine zG_icmp (op := .ge) (off := 7) (tgt := 62) (by decide +kernel) rfl Iff.rfl (fun c6 => ?_) (fun c6 => ?_)
        · refine zG_run t_Mod [(.iload 6, 0, 0), (.bipush 16, 0, 0)] (66, [some (zr (some (11, 333))), some (zi v1), some (zi v2), some (zi v3), some (zi v4), some (zi v5), some (zi v6), none], [zi 16, zi v6], h) (by decide +kernel) rfl ?_
          refine zG_icmp (op := .ge) (off := 8) (tgt := 74) (by decide +kernel) rfl Iff.rfl (fun c5 => ?_) (fun c5 => ?_)
          · refine zG_run t_Mod [(.iload 5, 0, 0)] (76, [some (zr (some (11, 333))), some (zi v1), some (zi v2), some (zi v3), some (zi v4), some (zi v5), some (zi v6), none], [zi v5], h) (by decide +kernel) rfl ?_
            exact zG_forget (L' := [some (zr (some (11, 333))), some (zi v1), some (zi v2), some (zi v3), some (zi v4), some (zi v5), some (zi v6), none]) (And.intro rfl (And.intro rfl (And.intro rfl (And.intro rfl (And.intro rfl (And.intro rfl (And.intro rfl trivial))))))) (k_Mod_feed_j76 hl)
          · refine zG_run t_Mod [(.iload 4, 0, 0), (.goto 5, 0, 0)] (76, [some (zr (some (11, 333))), some (zi v1), some (zi v2), some (zi v3), some (zi v4), some (zi v5), some (zi v6), none], [zi v4], h) (by decide +kernel) rfl ?_
            exact zG_forget (L' := [some (zr (some (11, 333))), some (zi v1), some (zi v2), some (zi v3), some (zi v4), some (zi v5), some (zi v6), none]) (And.intro rfl (And.intro rfl (And.intro rfl (And.intro rfl (And.intro rfl (And.intro rfl (And.intro rfl trivial))))))) (k_Mod_feed_j76 hl)
        · refine zG_run t_Mod [(.iload_n 3, 0, 0), (.goto 17, 0, 0)] (76, [some (zr (some (11, 333))), some (zi v1), some (zi v2), some (zi v3), some (zi v4), some (zi v5), some (zi v6), none], [zi v3], h) (by decide +kernel) rfl ?_
          exact zG_forget (L' := [some (zr (some (11, 333))), some (zi v1), some (zi v2), some (zi v3), some (zi v4), some (zi v5), some (zi v6), none]) (And.intro rfl (And.intro rfl (And.intro rfl (And.intro rfl (And.intro rfl (And.intro rfl (And.intro rfl trivial))))))) (k_Mod_feed_j76 hl)
      · refine zG_run t_Mod [(.iload_n 2, 0, 0), (.goto 28, 0, 0)] (76, [some (zr (some (11, 333))), some (zi v1), some (zi v2), some (zi v3), some (zi v4), some (zi v5), some (zi v6), none], [zi v2], h) (by decide +kernel) rfl ?_
        exact zG_forget (L' := [some (zr (some (11, 333))), some (zi v1), some (zi v2), some (zi v3), some (zi v4), some (zi v5), some (zi v6), none]) (And.intro rfl (And.intro rfl (And.intro rfl (And.intro rfl (And.intro rfl (And.intro rfl (And.intro rfl trivial))))))) (k_Mod_feed_j76 hl)
    · refine zG_run t_Mod [(.iload_n 1, 0, 0), (.goto 39, 0, 0)] (76, [some (zr (some (11, 333))), some (zi v1), some (zi v2), some (zi v3), some (zi v4), some (zi v5), some (zi v6), none], [zi v1], h) (by decide +kernel) rfl ?_
      exact zG_forget (L' := [some (zr (some (11, 333))), some (zi v1), some (zi v2), some (zi v3), some (zi v4), some (zi v5), some (zi v6), none]) (And.intro rfl (And.intro rfl (And.intro rfl (And.intro rfl (And.intro rfl (And.intro rfl (And.intro rfl trivial))))))) (k_Mod_feed_j76 hl)
set_option maxRecDepth 20000 in
theorem k_Mod_feed {l : Launch} {X : zX} (hl : l.stackTraces = false) {h : zH} {v1 : Int32} {v2 : Int32} {v3 : Int32} {v4 : Int32} {v5 : Int32} : zGl l m_Mod_feed X 0 0 (f_Mod_feed h v1 v2 v3 v4 v5) (0, [some (zr (some (11, 333))), some (zi v1), some (zi v2), some (zi v3), some (zi v4), some (zi v5), none, none], [], h) (fun x => .inr ((fun a => (.inl (some (zi a.1)), a.2) : Int32 × zH → zF) x)) := by
  unfold f_Mod_feed
  refine zG_bind (fun y => (5, [some (zr (some (11, 333))), some (zi v1), some (zi v2), some (zi v3), some (zi v4), some (zi v5), none, none], [], y)) (zG_run t_Mod [(.aload_n 0, 0, 0), (.iconst 0, 0, 0), (.putfield 181, 11, 2)] (5, [some (zr (some (11, 333))), some (zi v1), some (zi v2), some (zi v3), some (zi v4), some (zi v5), none, none], [], zsI h 333 2 0) (by decide +kernel) rfl (zG_end (L' := [some (zr (some (11, 333))), some (zi v1), some (zi v2), some (zi v3), some (zi v4), some (zi v5), none, none]) rfl (And.intro rfl (And.intro rfl (And.intro rfl (And.intro rfl (And.intro rfl (And.intro rfl trivial)))))))) fun h1 => ?_
  refine zG_run t_Mod [(.aload_n 0, 0, 0), (.getfield 184, 11, 17), (.bipush 20, 0, 0), (.iadd, 0, 0), (.sipush 900, 0, 0)] (15, [some (zr (some (11, 333))), some (zi v1), some (zi v2), some (zi v3), some (zi v4), some (zi v5), none, none], [zi 900, zi ((h1.1 333 17) + 20)], h1) (by decide +kernel) rfl ?_
  refine zG_icmp (op := .le) (off := 5) (tgt := 20) (by decide +kernel) rfl Iff.rfl (fun c12 => ?_) (fun c12 => ?_)
  · refine zG_run t_Mod [(.iconst 0, 0, 0), (.istore 6, 0, 0)] (23, [some (zr (some (11, 333))), some (zi v1), some (zi v2), some (zi v3), some (zi v4), some (zi v5), some (zi 0), none], [], h1) (by decide +kernel) rfl ?_
    refine zG_forget (L' := [some (zr (some (11, 333))), some (zi v1), some (zi v2), some (zi v3), some (zi v4), some (zi v5), some (zi 0), none]) (And.intro rfl (And.intro rfl (And.intro rfl (And.intro rfl (And.intro rfl (And.intro rfl (And.intro rfl trivial))))))) ?_
    refine zG_bind (fun y : zH => (120, [some (zr (some (11, 333))), none, none, none, none, none, none, none], [], y)) (zG_iter (fun s : Int32 × zH => (23, [some (zr (some (11, 333))), some (zi v1), some (zi v2), some (zi v3), some (zi v4), some (zi v5), some (zi s.1), none], [], s.2)) fun s => k_Mod_feed_b23 hl) (fun y11 => ?_)
    refine zG_run t_Mod [(.aload_n 0, 0, 0), (.getfield 184, 11, 17)] (124, [some (zr (some (11, 333))), none, none, none, none, none, none, none], [zi (y11.1 333 17)], y11) (by decide +kernel) rfl ?_
    exact zG_ret (r := some (zi (y11.1 333 17))) rfl (zrd_i rfl (by decide +kernel))
  · refine zG_run t_Mod [(.iconst (-1), 0, 0)] (19, [some (zr (some (11, 333))), some (zi v1), some (zi v2), some (zi v3), some (zi v4), some (zi v5), none, none], [zi (-1)], h1) (by decide +kernel) rfl ?_
    exact zG_ret (r := some (zi (-1))) rfl (zrd_i rfl (by decide +kernel))
theorem c_Mod_feed {l : Launch} {X : zX} (hl : l.stackTraces = false) {h : zH} {v1 : Int32} {v2 : Int32} {v3 : Int32} {v4 : Int32} {v5 : Int32} {x : Int32 × zH} (hx : f_Mod_feed h v1 v2 v3 v4 v5 = some x) : zCt l (true, 2) 2 m_Mod_feed X 0 0 [zr (some (11, 333)), zi v1, zi v2, zi v3, zi v4, zi v5] h ((fun a => (.inl (some (zi a.1)), a.2) : Int32 × zH → zF) x) :=
  zG_ct (R := fun a => (.inl (some (zi a.1)), a.2)) (x := x) ok_Mod_feed hl (Nat.le_of_ble_eq_true rfl) hx (k_Mod_feed hl)
def m_Mod_fail : zM := (({ cls := "ScanPackerModel", name := "fail", desc := "(I)I" } : Jvm.MethodName), prog_13_method_3_code, 2, (Option.some Jvm.ClassFile.FieldType.int), [], 1)
theorem ok_Mod_fail : zMok m_Mod_fail := ⟨by decide +kernel, zW_of 1646 (by decide +kernel) (by decide +kernel), zW_of 134 (by decide +kernel) (by decide +kernel), by decide, by decide +kernel, by decide +kernel⟩
set_option maxRecDepth 20000 in
theorem k_Mod_fail {l : Launch} {X : zX} (hl : l.stackTraces = false) {h : zH} {v1 : Int32} : zGl l m_Mod_fail X 0 0 (f_Mod_fail h v1) (0, [some (zr (some (11, 333))), some (zi v1)], [], h) (fun x => .inr ((fun a => (.inl (some (zi a.1)), a.2) : Int32 × zH → zF) x)) := by
  unfold f_Mod_fail
  refine zG_bind (fun y => (5, [some (zr (some (11, 333))), some (zi v1)], [], y)) (zG_run t_Mod [(.aload_n 0, 0, 0), (.iload_n 1, 0, 0), (.putfield 181, 11, 2)] (5, [some (zr (some (11, 333))), some (zi v1)], [], zsI h 333 2 v1) (by decide +kernel) rfl (zG_end (L' := [some (zr (some (11, 333))), some (zi v1)]) rfl (And.intro rfl (And.intro rfl trivial)))) fun h1 => ?_
  refine zG_run t_Mod [(.iconst 0, 0, 0)] (6, [some (zr (some (11, 333))), some (zi v1)], [zi 0], h1) (by decide +kernel) rfl ?_
  exact zG_ret (r := some (zi 0)) rfl (zrd_i rfl (by decide +kernel))
theorem c_Mod_fail {l : Launch} {X : zX} (hl : l.stackTraces = false) {h : zH} {v1 : Int32} {x : Int32 × zH} (hx : f_Mod_fail h v1 = some x) : zCt l (true, 2) 2 m_Mod_fail X 0 0 [zr (some (11, 333)), zi v1] h ((fun a => (.inl (some (zi a.1)), a.2) : Int32 × zH → zF) x) :=
  zG_ct (R := fun a => (.inl (some (zi a.1)), a.2)) (x := x) ok_Mod_fail hl (Nat.le_of_ble_eq_true rfl) hx (k_Mod_fail hl)
def m_Mod_byteAt : zM := (({ cls := "ScanPackerModel", name := "byteAt", desc := "(I)I" } : Jvm.MethodName), prog_13_method_8_code, 2, (Option.some Jvm.ClassFile.FieldType.int), [], 1)
theorem ok_Mod_byteAt : zMok m_Mod_byteAt := ⟨by decide +kernel, zW_of 1654 (by decide +kernel) (by decide +kernel), zW_of 134 (by decide +kernel) (by decide +kernel), by decide, by decide +kernel, by decide +kernel⟩
set_option maxRecDepth 20000 in
theorem k_Mod_byteAt {l : Launch} {X : zX} (hl : l.stackTraces = false) {h : zH} {v1 : Int32} : zGl l m_Mod_byteAt X 0 0 (f_Mod_byteAt h v1) (0, [some (zr (some (11, 333))), some (zi v1)], [], h) (fun x => .inr ((fun a => (.inl (some (zi a)), h) : Int32 → zF) x)) := by
  unfold f_Mod_byteAt
  refine zG_run t_Mod [(.iload_n 1, 0, 0), (.aload_n 0, 0, 0), (.getfield 187, 11, 19)] (5, [some (zr (some (11, 333))), some (zi v1)], [zi (h.1 333 19), zi v1], h) (by decide +kernel) rfl ?_
  refine zG_icmp (op := .ge) (off := 12) (tgt := 17) (by decide +kernel) rfl Iff.rfl (fun c2 => ?_) (fun c2 => ?_)
  · refine zG_run t_Mod [(.iconst (-1), 0, 0)] (18, [some (zr (some (11, 333))), some (zi v1)], [zi (-1)], h) (by decide +kernel) rfl ?_
    exact zG_ret (r := some (zi (-1))) rfl (zrd_i rfl (by decide +kernel))
  · refine zG_run t_Mod [(.aload_n 0, 0, 0), (.getfield 80, 11, 16), (.iload_n 1, 0, 0)] (13, [some (zr (some (11, 333))), some (zi v1)], [zi v1, zr (some (75, 349))], h) (by decide +kernel) rfl ?_
    refine zG_ald (v := zi (h.1 349 v1.toNatClampNeg)) (n := 900) rfl (by decide +kernel) rfl rfl fun hb1 => ?_
    refine zG_run t_Mod [(.goto 4, 0, 0)] (18, [some (zr (some (11, 333))), some (zi v1)], [zi (h.1 349 v1.toNatClampNeg)], h) (by decide +kernel) rfl ?_
    exact zG_ret (r := some (zi (h.1 349 v1.toNatClampNeg))) rfl (zrd_i rfl (by decide +kernel))
theorem c_Mod_byteAt {l : Launch} {X : zX} (hl : l.stackTraces = false) {h : zH} {v1 : Int32} {x : Int32} (hx : f_Mod_byteAt h v1 = some x) : zCt l (true, 2) 2 m_Mod_byteAt X 0 0 [zr (some (11, 333)), zi v1] h ((fun a => (.inl (some (zi a)), h) : Int32 → zF) x) :=
  zG_ct (R := fun a => (.inl (some (zi a)), h)) (x := x) ok_Mod_byteAt hl (Nat.le_of_ble_eq_true rfl) hx (k_Mod_byteAt hl)
def m_Mod_isLetter : zM := (({ cls := "ScanPackerModel", name := "isLetter", desc := "(I)Z" } : Jvm.MethodName), prog_13_method_9_code, 1, (Option.some Jvm.ClassFile.FieldType.boolean), [], 1)
theorem ok_Mod_isLetter : zMok m_Mod_isLetter := ⟨by decide +kernel, zW_of 1657 (by decide +kernel) (by decide +kernel), zW_of 134 (by decide +kernel) (by decide +kernel), by decide, by decide +kernel, by decide +kernel⟩
set_option maxRecDepth 20000 in
theorem k_Mod_isLetter {l : Launch} {X : zX} (hl : l.stackTraces = false) {h : zH} {v0 : Int32} : zGl l m_Mod_isLetter X 0 0 (f_Mod_isLetter v0) (0, [some (zi v0)], [], h) (fun x => .inr ((fun a => (.inl (some (zi a)), h) : Int32 → zF) x)) := by
  unfold f_Mod_isLetter
  refine zG_run t_Mod [(.iload_n 0, 0, 0), (.bipush 97, 0, 0)] (3, [some (zi v0)], [zi 97, zi v0], h) (by decide +kernel) rfl ?_
  refine zG_icmp (op := .lt) (off := 13) (tgt := 16) (by decide +kernel) rfl Iff.rfl (fun c2 => ?_) (fun c2 => ?_)
  · refine zG_run t_Mod [(.iconst 0, 0, 0)] (17, [some (zi v0)], [zi 0], h) (by decide +kernel) rfl ?_
    exact zG_ret (r := some (zi 0)) rfl (zrd_z rfl (by decide +kernel) rfl)
  · refine zG_run t_Mod [(.iload_n 0, 0, 0), (.bipush 122, 0, 0)] (9, [some (zi v0)], [zi 122, zi v0], h) (by decide +kernel) rfl ?_
    refine zG_icmp (op := .gt) (off := 7) (tgt := 16) (by decide +kernel) rfl Iff.rfl (fun c1 => ?_) (fun c1 => ?_)
    · refine zG_run t_Mod [(.iconst 0, 0, 0)] (17, [some (zi v0)], [zi 0], h) (by decide +kernel) rfl ?_
      exact zG_ret (r := some (zi 0)) rfl (zrd_z rfl (by decide +kernel) rfl)
    · refine zG_run t_Mod [(.iconst 1, 0, 0), (.goto 4, 0, 0)] (17, [some (zi v0)], [zi 1], h) (by decide +kernel) rfl ?_
      exact zG_ret (r := some (zi 1)) rfl (zrd_z rfl (by decide +kernel) rfl)
theorem c_Mod_isLetter {l : Launch} {X : zX} (hl : l.stackTraces = false) {h : zH} {v0 : Int32} {x : Int32} (hx : f_Mod_isLetter v0 = some x) : zCt l (true, 2) 2 m_Mod_isLetter X 0 0 [zi v0] h ((fun a => (.inl (some (zi a)), h) : Int32 → zF) x) :=
  zG_ct (R := fun a => (.inl (some (zi a)), h)) (x := x) ok_Mod_isLetter hl (Nat.le_of_ble_eq_true rfl) hx (k_Mod_isLetter hl)
def m_Mod_isDigit : zM := (({ cls := "ScanPackerModel", name := "isDigit", desc := "(I)Z" } : Jvm.MethodName), prog_13_method_10_code, 1, (Option.some Jvm.ClassFile.FieldType.boolean), [], 1)
theorem ok_Mod_isDigit : zMok m_Mod_isDigit := ⟨by decide +kernel, zW_of 1660 (by decide +kernel) (by decide +kernel), zW_of 134 (by decide +kernel) (by decide +kernel), by decide, by decide +kernel, by decide +kernel⟩
set_option maxRecDepth 20000 in
theorem k_Mod_isDigit {l : Launch} {X : zX} (hl : l.stackTraces = false) {h : zH} {v0 : Int32} : zGl l m_Mod_isDigit X 0 0 (f_Mod_isDigit v0) (0, [some (zi v0)], [], h) (fun x => .inr ((fun a => (.inl (some (zi a)), h) : Int32 → zF) x)) := by
  unfold f_Mod_isDigit
  refine zG_run t_Mod [(.iload_n 0, 0, 0), (.bipush 48, 0, 0)] (3, [some (zi v0)], [zi 48, zi v0], h) (by decide +kernel) rfl ?_
  refine zG_icmp (op := .lt) (off := 13) (tgt := 16) (by decide +kernel) rfl Iff.rfl (fun c2 => ?_) (fun c2 => ?_)
  · refine zG_run t_Mod [(.iconst 0, 0, 0)] (17, [some (zi v0)], [zi 0], h) (by decide +kernel) rfl ?_
    exact zG_ret (r := some (zi 0)) rfl (zrd_z rfl (by decide +kernel) rfl)
  · refine zG_run t_Mod [(.iload_n 0, 0, 0), (.bipush 57, 0, 0)] (9, [some (zi v0)], [zi 57, zi v0], h) (by decide +kernel) rfl ?_
    refine zG_icmp (op := .gt) (off := 7) (tgt := 16) (by decide +kernel) rfl Iff.rfl (fun c1 => ?_) (fun c1 => ?_)
    · refine zG_run t_Mod [(.iconst 0, 0, 0)] (17, [some (zi v0)], [zi 0], h) (by decide +kernel) rfl ?_
      exact zG_ret (r := some (zi 0)) rfl (zrd_z rfl (by decide +kernel) rfl)
    · refine zG_run t_Mod [(.iconst 1, 0, 0), (.goto 4, 0, 0)] (17, [some (zi v0)], [zi 1], h) (by decide +kernel) rfl ?_
      exact zG_ret (r := some (zi 1)) rfl (zrd_z rfl (by decide +kernel) rfl)
theorem c_Mod_isDigit {l : Launch} {X : zX} (hl : l.stackTraces = false) {h : zH} {v0 : Int32} {x : Int32} (hx : f_Mod_isDigit v0 = some x) : zCt l (true, 2) 2 m_Mod_isDigit X 0 0 [zi v0] h ((fun a => (.inl (some (zi a)), h) : Int32 → zF) x) :=
  zG_ct (R := fun a => (.inl (some (zi a)), h)) (x := x) ok_Mod_isDigit hl (Nat.le_of_ble_eq_true rfl) hx (k_Mod_isDigit hl)
def m_Mod_stepOn : zM := (({ cls := "ScanPackerModel", name := "stepOn", desc := "()V" } : Jvm.MethodName), prog_13_method_11_code, 2, (Option.none : Option Jvm.ClassFile.FieldType), [], 2)
theorem ok_Mod_stepOn : zMok m_Mod_stepOn := ⟨by decide +kernel, zW_of 1650 (by decide +kernel) (by decide +kernel), zW_of 134 (by decide +kernel) (by decide +kernel), by decide, by decide +kernel, by decide +kernel⟩
set_option maxRecDepth 20000 in
theorem k_Mod_stepOn_j26 {l : Launch} {X : zX} (hl : l.stackTraces = false) {h : zH} : zGl l m_Mod_stepOn X 0 0 (f_Mod_stepOn_j26 h) (26, [some (zr (some (11, 333))), none], [], h) (Sum.elim (fun s : zH => .inl (0, [some (zr (some (11, 333))), none], [], s)) (fun y : zH => .inl (39, [some (zr (some (11, 333))), none], [], y))) := by
  unfold f_Mod_stepOn_j26
  refine zG_bind (fun y => (36, [some (zr (some (11, 333))), none], [], y)) (zG_run t_Mod [(.aload_n 0, 0, 0), (.dup, 0, 0), (.getfield 190, 11, 18), (.iconst 1, 0, 0), (.iadd, 0, 0), (.putfield 190, 11, 18)] (36, [some (zr (some (11, 333))), none], [], zsI h 333 18 ((h.1 333 18) + 1)) (by decide +kernel) rfl (zG_end (L' := [some (zr (some (11, 333))), none]) rfl (And.intro rfl trivial))) fun h2 => ?_
  refine zG_run t_Mod [(.goto (-36), 0, 0)] (0, [some (zr (some (11, 333))), none], [], h2) (by decide +kernel) rfl ?_
  exact zG_end (L' := [some (zr (some (11, 333))), none]) rfl (And.intro rfl trivial)
set_option maxRecDepth 20000 in
theorem k_Mod_stepOn_b0 {l : Launch} {X : zX} (hl : l.stackTraces = false) {h : zH} : zGl l m_Mod_stepOn X 0 0 (f_Mod_stepOn_b0 h) (0, [some (zr (some (11, 333))), none], [], h) (Sum.elim (fun s : zH => .inl (0, [some (zr (some (11, 333))), none], [], s)) (fun y : zH => .inl (39, [some (zr (some (11, 333))), none], [], y))) := by
  unfold f_Mod_stepOn_b0
  refine zG_run t_Mod [(.aload_n 0, 0, 0), (.aload_n 0, 0, 0), (.getfield 190, 11, 18)] (5, [some (zr (some (11, 333))), none], [zi (h.1 333 18), zr (some (11, 333))], h) (by decide +kernel) rfl ?_
  refine zG_callV (idx := 193) (R := (fun a => (some (zi a), h))) (as := [zi (h.1 333 18)]) (rest := []) (n := 1) (fun a ha => c_Mod_byteAt hl ha) (by decide +kernel) ⟨ok_Mod_byteAt, by decide, by decide +kernel⟩ rfl w_381 w_382 w_383 (by decide) rfl rfl rfl (Nat.le_of_ble_eq_true rfl) fun x1 => ?_
  refine zG_run t_Mod [(.bipush 32, 0, 0)] (10, [some (zr (some (11, 333))), none], [zi 32, zi x1], h) (by decide +kernel) rfl ?_
  refine zG_icmp (op := .eq) (off := 16) (tgt := 26) (by decide +kernel) rfl Iff.rfl (fun c5 => ?_) (fun c5 => ?_)
  · exact zG_forget (L' := [some (zr (some (11, 333))), none]) (And.intro rfl trivial) (k_Mod_stepOn_j26 hl)
  · refine zG_run t_Mod [(.aload_n 0, 0, 0), (.aload_n 0, 0, 0), (.getfield 190, 11, 18)] (18, [some (zr (some (11, 333))), none], [zi (h.1 333 18), zr (some (11, 333))], h) (by decide +kernel) rfl ?_
    refine zG_callV (idx := 193) (R := (fun a => (some (zi a), h))) (as := [zi (h.1 333 18)]) (rest := []) (n := 1) (fun a ha => c_Mod_byteAt hl ha) (by decide +kernel) ⟨ok_Mod_byteAt, by decide, by decide +kernel⟩ rfl w_381 w_382 w_383 (by decide) rfl rfl rfl (Nat.le_of_ble_eq_true rfl) fun x3 => ?_
    refine zG_run t_Mod [(.bipush 10, 0, 0)] (23, [some (zr (some (11, 333))), none], [zi 10, zi x3], h) (by decide +kernel) rfl ?_
    refine zG_icmp (op := .ne) (off := 16) (tgt := 39) (by decide +kernel) rfl Iff.rfl (fun c4 => ?_) (fun c4 => ?_)
    · exact zG_end (L' := [some (zr (some (11, 333))), none]) rfl (And.intro rfl trivial)
    · exact zG_forget (L' := [some (zr (some (11, 333))), none]) (And.intro rfl trivial) (k_Mod_stepOn_j26 hl)
set_option maxRecDepth 20000 in
theorem k_Mod_stepOn_j192 {l : Launch} {X : zX} (hl : l.stackTraces = false) {h : zH} : zGl l m_Mod_stepOn X 0 0 (f_Mod_stepOn_j192 h) (192, [some (zr (some (11, 333))), none], [], h) (fun x => .inr ((fun a => (.inl none, a) : zH → zF) x)) := by
  unfold f_Mod_stepOn_j192
  refine zG_bind (fun y => (200, [some (zr (some (11, 333))), none], [], y)) (zG_run t_Mod [(.aload_n 0, 0, 0), (.aload_n 0, 0, 0), (.getfield 190, 11, 18), (.putfield 213, 11, 23)] (200, [some (zr (some (11, 333))), none], [], zsI h 333 23 (h.1 333 18)) (by decide +kernel) rfl (zG_end (L' := [some (zr (some (11, 333))), none]) rfl (And.intro rfl trivial))) fun h14 => ?_
  exact zG_ret (r := none) rfl (zrd_v rfl (by decide +kernel))
set_option maxRecDepth 20000 in
theorem k_Mod_stepOn_j189 {l : Launch} {X : zX} (hl : l.stackTraces = false) {h : zH} {t0 : Int32} : zGl l m_Mod_stepOn X 0 0 (f_Mod_stepOn_j189 h t0) (189, [some (zr (some (11, 333))), none], [zi t0, zr (some (11, 333))], h) (fun x => .inr ((fun a => (.inl none, a) : zH → zF) x)) := by
  unfold f_Mod_stepOn_j189
  refine zG_bind (fun y => (192, [some (zr (some (11, 333))), none], [], y)) (zG_run t_Mod [(.putfield 200, 11, 20)] (192, [some (zr (some (11, 333))), none], [], zsI h 333 20 t0) (by decide +kernel) rfl (zG_end (L' := [some (zr (some (11, 333))), none]) rfl (And.intro rfl trivial))) fun h13 => ?_
  exact zG_forget (L' := [some (zr (some (11, 333))), none]) (And.intro rfl trivial) (k_Mod_stepOn_j192 hl)
set_option maxRecDepth 20000 in
theorem k_Mod_stepOn_j184 {l : Launch} {X : zX} (hl : l.stackTraces = false) {h : zH} : zGl l m_Mod_stepOn X 0 0 (f_Mod_stepOn_j184 h) (184, [some (zr (some (11, 333))), none], [zr (some (11, 333))], h) (fun x => .inr ((fun a => (.inl none, a) : zH → zF) x)) := by
  unfold f_Mod_stepOn_j184
  refine zG_run t_Mod [(.iconst 3, 0, 0), (.goto 4, 0, 0)] (189, [some (zr (some (11, 333))), none], [zi 3, zr (some (11, 333))], h) (by decide +kernel) rfl ?_
  exact zG_forget (L' := [some (zr (some (11, 333))), none]) (And.intro rfl trivial) (k_Mod_stepOn_j189 hl)
set_option maxRecDepth 20000 in
theorem k_Mod_stepOn_b126 {l : Launch} {X : zX} (hl : l.stackTraces = false) {h : zH} : zGl l m_Mod_stepOn X 0 0 (f_Mod_stepOn_b126 h) (126, [some (zr (some (11, 333))), none], [], h) (Sum.elim (fun s : zH => .inl (126, [some (zr (some (11, 333))), none], [], s)) (fun y : zH => .inl (153, [some (zr (some (11, 333))), none], [], y))) := by
  unfold f_Mod_stepOn_b126
  refine zG_run t_Mod [(.aload_n 0, 0, 0), (.aload_n 0, 0, 0), (.getfield 190, 11, 18)] (131, [some (zr (some (11, 333))), none], [zi (h.1 333 18), zr (some (11, 333))], h) (by decide +kernel) rfl ?_
  refine zG_callV (idx := 193) (R := (fun a => (some (zi a), h))) (as := [zi (h.1 333 18)]) (rest := []) (n := 1) (fun a ha => c_Mod_byteAt hl ha) (by decide +kernel) ⟨ok_Mod_byteAt, by decide, by decide +kernel⟩ rfl w_381 w_382 w_383 (by decide) rfl rfl rfl (Nat.le_of_ble_eq_true rfl) fun x18 => ?_
  refine zG_callS (idx := 207) (R := (fun a => (some (zi a), h))) (as := [zi x18]) (rest := []) (n := 1) (fun a ha => c_Mod_isDigit hl ha) (by decide +kernel) ⟨ok_Mod_isDigit, by decide, by decide +kernel⟩ rfl w_386 w_387 rfl rfl (Nat.le_of_ble_eq_true rfl) fun x19 => ?_
  refine zG_if (op := .eq) (off := 16) (tgt := 153) (by decide +kernel) rfl Iff.rfl (fun c21 => ?_) (fun c21 => ?_)
  · exact zG_end (L' := [some (zr (some (11, 333))), none]) rfl (And.intro rfl trivial)
  · refine zG_bind (fun y => (150, [some (zr (some (11, 333))), none], [], y)) (zG_run t_Mod [(.aload_n 0, 0, 0), (.dup, 0, 0), (.getfield 190, 11, 18), (.iconst 1, 0, 0), (.iadd, 0, 0), (.putfield 190, 11, 18)] (150, [some (zr (some (11, 333))), none], [], zsI h 333 18 ((h.1 333 18) + 1)) (by decide +kernel) rfl (zG_end (L' := [some (zr (some (11, 333))), none]) rfl (And.intro rfl trivial))) fun h20 => ?_
    refine zG_run t_Mod [(.goto (-24), 0, 0)] (126, [some (zr (some (11, 333))), none], [], h20) (by decide +kernel) rfl ?_
    exact zG_end (L' := [some (zr (some (11, 333))), none]) rfl (And.intro rfl trivial)
set_option maxRecDepth 20000 in
theorem k_Mod_stepOn_b76 {l : Launch} {X : zX} (hl : l.stackTraces = false) {h : zH} : zGl l m_Mod_stepOn X 0 0 (f_Mod_stepOn_b76 h) (76, [some (zr (some (11, 333))), none], [], h) (Sum.elim (fun s : zH => .inl (76, [some (zr (some (11, 333))), none], [], s)) (fun y : zH => .inl (103, [some (zr (some (11, 333))), none], [], y))) := by
  unfold f_Mod_stepOn_b76
  refine zG_run t_Mod [(.aload_n 0, 0, 0), (.aload_n 0, 0, 0), (.getfield 190, 11, 18)] (81, [some (zr (some (11, 333))), none], [zi (h.1 333 18), zr (some (11, 333))], h) (by decide +kernel) rfl ?_
  refine zG_callV (idx := 193) (R := (fun a => (some (zi a), h))) (as := [zi (h.1 333 18)]) (rest := []) (n := 1) (fun a ha => c_Mod_byteAt hl ha) (by decide +kernel) ⟨ok_Mod_byteAt, by decide, by decide +kernel⟩ rfl w_381 w_382 w_383 (by decide) rfl rfl rfl (Nat.le_of_ble_eq_true rfl) fun x26 => ?_
  refine zG_callS (idx := 203) (R := (fun a => (some (zi a), h))) (as := [zi x26]) (rest := []) (n := 1) (fun a ha => c_Mod_isLetter hl ha) (by decide +kernel) ⟨ok_Mod_isLetter, by decide, by decide +kernel⟩ rfl w_384 w_385 rfl rfl (Nat.le_of_ble_eq_true rfl) fun x27 => ?_
  refine zG_if (op := .eq) (off := 16) (tgt := 103) (by decide +kernel) rfl Iff.rfl (fun c29 => ?_) (fun c29 => ?_)
  · exact zG_end (L' := [some (zr (some (11, 333))), none]) rfl (And.intro rfl trivial)
  · refine zG_bind (fun y => (100, [some (zr (some (11, 333))), none], [], y)) (zG_run t_Mod [(.aload_n 0, 0, 0), (.dup, 0, 0), (.getfield 190, 11, 18), (.iconst 1, 0, 0), (.iadd, 0, 0), (.putfield 190, 11, 18)] (100, [some (zr (some (11, 333))), none], [], zsI h 333 18 ((h.1 333 18) + 1)) (by decide +kernel) rfl (zG_end (L' := [some (zr (some (11, 333))), none]) rfl (And.intro rfl trivial))) fun h28 => ?_
    refine zG_run t_Mod [(.goto (-24), 0, 0)] (76, [some (zr (some (11, 333))), none], [], h28) (by decide +kernel) rfl ?_
    exact zG_end (L' := [some (zr (some (11, 333))), none]) rfl (And.intro rfl trivial)
set_option maxRecDepth 20000 in
theorem k_Mod_stepOn {l : Launch} {X : zX} (hl : l.stackTraces = false) {h : zH} : zGl l m_Mod_stepOn X 0 0 (f_Mod_stepOn h) (0, [some (zr (some (11, 333))), none], [], h) (fun x => .inr ((fun a => (.inl none, a) : zH → zF) x)) := by
  unfold f_Mod_stepOn
  refine zG_forget (L' := [some (zr (some (11, 333))), none]) (And.intro rfl trivial) ?_
  refine zG_bind (fun y : zH => (39, [some (zr (some (11, 333))), none], [], y)) (zG_iter (fun s : zH => (0, [some (zr (some (11, 333))), none], [], s)) fun s => k_Mod_stepOn_b0 hl) (fun y7 => ?_)
  refine zG_bind (fun y => (47, [some (zr (some (11, 333))), none], [], y)) (zG_run t_Mod [(.aload_n 0, 0, 0), (.aload_n 0, 0, 0), (.getfield 190, 11, 18), (.putfield 197, 11, 22)] (47, [some (zr (some (11, 333))), none], [], zsI y7 333 22 (y7.1 333 18)) (by decide +kernel) rfl (zG_end (L' := [some (zr (some (11, 333))), none]) rfl (And.intro rfl trivial))) fun h8 => ?_
  refine zG_run t_Mod [(.aload_n 0, 0, 0), (.aload_n 0, 0, 0), (.getfield 190, 11, 18)] (52, [some (zr (some (11, 333))), none], [zi (h8.1 333 18), zr (some (11, 333))], h8) (by decide +kernel) rfl ?_
  refine zG_callV (idx := 193) (R := (fun a => (some (zi a), h8))) (as := [zi (h8.1 333 18)]) (rest := []) (n := 1) (fun a ha => c_Mod_byteAt hl ha) (by decide +kernel) ⟨ok_Mod_byteAt, by decide, by decide +kernel⟩ rfl w_381 w_382 w_383 (by decide) rfl rfl rfl (Nat.le_of_ble_eq_true rfl) fun x9 => ?_
  refine zG_run t_Mod [(.istore_n 1, 0, 0), (.iload_n 1, 0, 0), (.iconst (-1), 0, 0)] (58, [some (zr (some (11, 333))), some (zi x9)], [zi (-1), zi x9], h8) (by decide +kernel) rfl ?_
  refine zG_icmp (op := .ne) (off := 11) (tgt := 69) (by decide +kernel) rfl Iff.rfl (fun c35 => ?_) (fun c35 => ?_)
  · refine zG_run t_Mod [(.iload_n 1, 0, 0)] (70, [some (zr (some (11, 333))), some (zi x9)], [zi x9], h8) (by decide +kernel) rfl ?_
    refine zG_callS (idx := 203) (R := (fun a => (some (zi a), h8))) (as := [zi x9]) (rest := []) (n := 1) (fun a ha => c_Mod_isLetter hl ha) (by decide +kernel) ⟨ok_Mod_isLetter, by decide, by decide +kernel⟩ rfl w_384 w_385 rfl rfl (Nat.le_of_ble_eq_true rfl) fun x10 => ?_
    refine zG_if (op := .eq) (off := 38) (tgt := 111) (by decide +kernel) rfl Iff.rfl (fun c33 => ?_) (fun c33 => ?_)
    · refine zG_run t_Mod [(.iload_n 1, 0, 0)] (112, [some (zr (some (11, 333))), some (zi x9)], [zi x9], h8) (by decide +kernel) rfl ?_
      refine zG_callS (idx := 207) (R := (fun a => (some (zi a), h8))) (as := [zi x9]) (rest := []) (n := 1) (fun a ha => c_Mod_isDigit hl ha) (by decide +kernel) ⟨ok_Mod_isDigit, by decide, by decide +kernel⟩ rfl w_386 w_387 rfl rfl (Nat.le_of_ble_eq_true rfl) fun x11 => ?_
      refine zG_if (op := .eq) (off := 46) (tgt := 161) (by decide +kernel) rfl Iff.rfl (fun c25 => ?_) (fun c25 => ?_)
      · refine zG_bind (fun y => (171, [some (zr (some (11, 333))), some (zi x9)], [], y)) (zG_run t_Mod [(.aload_n 0, 0, 0), (.dup, 0, 0), (.getfield 190, 11, 18), (.iconst 1, 0, 0), (.iadd, 0, 0), (.putfield 190, 11, 18)] (171, [some (zr (some (11, 333))), some (zi x9)], [], zsI h8 333 18 ((h8.1 333 18) + 1)) (by decide +kernel) rfl (zG_end (L' := [some (zr (some (11, 333))), some (zi x9)]) rfl (And.intro rfl (And.intro rfl trivial)))) fun h12 => ?_
        refine zG_run t_Mod [(.aload_n 0, 0, 0), (.iload_n 1, 0, 0), (.bipush 59, 0, 0)] (175, [some (zr (some (11, 333))), some (zi x9)], [zi 59, zi x9, zr (some (11, 333))], h12) (by decide +kernel) rfl ?_
        refine zG_icmp (op := .eq) (off := 9) (tgt := 184) (by decide +kernel) rfl Iff.rfl (fun c16 => ?_) (fun c16 => ?_)
        · exact zG_forget (L' := [some (zr (some (11, 333))), none]) (And.intro rfl trivial) (k_Mod_stepOn_j184 hl)
        · refine zG_run t_Mod [(.iload_n 1, 0, 0), (.bipush 61, 0, 0)] (181, [some (zr (some (11, 333))), some (zi x9)], [zi 61, zi x9, zr (some (11, 333))], h12) (by decide +kernel) rfl ?_
          refine zG_icmp (op := .ne) (off := 7) (tgt := 188) (by decide +kernel) rfl Iff.rfl (fun c15 => ?_) (fun c15 => ?_)
          · refine zG_run t_Mod [(.iconst 4, 0, 0)] (189, [some (zr (some (11, 333))), some (zi x9)], [zi 4, zr (some (11, 333))], h12) (by decide +kernel) rfl ?_
            exact zG_forget (L' := [some (zr (some (11, 333))), none]) (And.intro rfl trivial) (k_Mod_stepOn_j189 hl)
          · exact zG_forget (L' := [some (zr (some (11, 333))), none]) (And.intro rfl trivial) (k_Mod_stepOn_j184 hl)
      · refine zG_bind (fun y => (126, [some (zr (some (11, 333))), some (zi x9)], [], y)) (zG_run t_Mod [(.aload_n 0, 0, 0), (.iload_n 1, 0, 0), (.bipush 48, 0, 0), (.isub, 0, 0), (.putfield 210, 11, 21)] (126, [some (zr (some (11, 333))), some (zi x9)], [], zsI h8 333 21 (x9 - 48)) (by decide +kernel) rfl (zG_end (L' := [some (zr (some (11, 333))), some (zi x9)]) rfl (And.intro rfl (And.intro rfl trivial)))) fun h17 => ?_
        refine zG_forget (L' := [some (zr (some (11, 333))), none]) (And.intro rfl trivial) ?_
        refine zG_bind (fun y : zH => (153, [some (zr (some (11, 333))), none], [], y)) (zG_iter (fun s : zH => (126, [some (zr (some (11, 333))), none], [], s)) fun s => k_Mod_stepOn_b126 hl) (fun y23 => ?_)
        refine zG_bind (fun y => (158, [some (zr (some (11, 333))), none], [], y)) (zG_run t_Mod [(.aload_n 0, 0, 0), (.iconst 2, 0, 0), (.putfield 200, 11, 20)] (158, [some (zr (some (11, 333))), none], [], zsI y23 333 20 2) (by decide +kernel) rfl (zG_end (L' := [some (zr (some (11, 333))), none]) rfl (And.intro rfl trivial))) fun h24 => ?_
        refine zG_run t_Mod [(.goto 34, 0, 0)] (192, [some (zr (some (11, 333))), none], [], h24) (by decide +kernel) rfl ?_
        exact zG_forget (L' := [some (zr (some (11, 333))), none]) (And.intro rfl trivial) (k_Mod_stepOn_j192 hl)
    · refine zG_forget (L' := [some (zr (some (11, 333))), none]) (And.intro rfl trivial) ?_
      refine zG_bind (fun y : zH => (103, [some (zr (some (11, 333))), none], [], y)) (zG_iter (fun s : zH => (76, [some (zr (some (11, 333))), none], [], s)) fun s => k_Mod_stepOn_b76 hl) (fun y31 => ?_)
      refine zG_bind (fun y => (108, [some (zr (some (11, 333))), none], [], y)) (zG_run t_Mod [(.aload_n 0, 0, 0), (.iconst 1, 0, 0), (.putfield 200, 11, 20)] (108, [some (zr (some (11, 333))), none], [], zsI y31 333 20 1) (by decide +kernel) rfl (zG_end (L' := [some (zr (some (11, 333))), none]) rfl (And.intro rfl trivial))) fun h32 => ?_
      refine zG_run t_Mod [(.goto 84, 0, 0)] (192, [some (zr (some (11, 333))), none], [], h32) (by decide +kernel) rfl ?_
      exact zG_forget (L' := [some (zr (some (11, 333))), none]) (And.intro rfl trivial) (k_Mod_stepOn_j192 hl)
  · refine zG_bind (fun y => (66, [some (zr (some (11, 333))), some (zi x9)], [], y)) (zG_run t_Mod [(.aload_n 0, 0, 0), (.iconst 0, 0, 0), (.putfield 200, 11, 20)] (66, [some (zr (some (11, 333))), some (zi x9)], [], zsI h8 333 20 0) (by decide +kernel) rfl (zG_end (L' := [some (zr (some (11, 333))), some (zi x9)]) rfl (And.intro rfl (And.intro rfl trivial)))) fun h34 => ?_
    refine zG_run t_Mod [(.goto 126, 0, 0)] (192, [some (zr (some (11, 333))), some (zi x9)], [], h34) (by decide +kernel) rfl ?_
    exact zG_forget (L' := [some (zr (some (11, 333))), none]) (And.intro rfl trivial) (k_Mod_stepOn_j192 hl)
theorem c_Mod_stepOn {l : Launch} {X : zX} (hl : l.stackTraces = false) {h : zH} {x : zH} (hx : f_Mod_stepOn h = some x) : zCt l (true, 2) 2 m_Mod_stepOn X 0 0 [zr (some (11, 333))] h ((fun a => (.inl none, a) : zH → zF) x) :=
  zG_ct (R := fun a => (.inl none, a)) (x := x) ok_Mod_stepOn hl (Nat.le_of_ble_eq_true rfl) hx (k_Mod_stepOn hl)
