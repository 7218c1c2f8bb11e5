/-! methods, by wip/whole/gen.py -/
def m_Main_line : zM := (({ cls := "ScanPacker", name := "line", desc := "(II)I" } : Jvm.MethodName), prog_1_method_6_code, 3, (Option.some Jvm.ClassFile.FieldType.int), [], 7)
theorem ok_Main_line : zMok m_Main_line := ⟨by decide +kernel, zW_of 1146 (by decide +kernel) (by decide +kernel), zW_of 122 (by decide +kernel) (by decide +kernel), by decide, by decide +kernel, by decide +kernel⟩
set_option maxRecDepth 20000 in
theorem k_Main_line_j15 {l : Launch} {X : zX} (hl : l.stackTraces = false) {h : zH} : zGl l m_Main_line X 1 6 (f_Main_line_j15 h) (15, [none, none, none], [], h) (fun x => .inr ((Sum.elim (fun a => (.inl (some (zi a.1)), a.2)) (fun q => (.inr q.1, q.2)) : (Int32 × zH) ⊕ (Nat × zH) → zF) x)) := by
  unfold f_Main_line_j15
  refine zG_mono (bc' := 0 + 1) (bs' := 0 + 6) (by decide) (by decide) ?_
  exact zG_throw (k := 1) (ik := 109) (ic := 111) rfl (Or.inl rfl) (by decide +kernel) (by decide +kernel) (by decide +kernel) (by decide +kernel) w_176 w_177 (by decide +kernel) (by decide +kernel) (Nat.le_of_ble_eq_true rfl) (by decide) rfl
set_option maxRecDepth 20000 in
theorem k_Main_line_j96 {l : Launch} {X : zX} (hl : l.stackTraces = false) {h : zH} {v1 : Int32} {v2 : Int32} : zGl l m_Main_line X 0 0 (f_Main_line_j96 h v1 v2) (96, [some (zr (some (0, 0))), some (zi v1), some (zi v2)], [], h) (fun x => .inr ((Sum.elim (fun a => (.inl (some (zi a.1)), a.2)) (fun q => (.inr q.1, q.2)) : (Int32 × zH) ⊕ (Nat × zH) → zF) x)) := by
  unfold f_Main_line_j96
  refine zG_run t_Main [(.aload_n 0, 0, 0), (.getfield 19, 0, 1)] (100, [some (zr (some (0, 0))), some (zi v1), some (zi v2)], [zr (h.2.2.1 0 1)], h) (by decide +kernel) rfl ?_
  refine zG_dyn fun w8 _ => ?_
  refine zG_run t_Main [(.getfield 128, 3, 10), (.iload_n 1, 0, 0)] (104, [some (zr (some (0, 0))), some (zi v1), some (zi v2)], [zi v1, zr (some (24, (w8 + 4)))], h) (by decide +kernel) rfl ?_
  refine zG_ald (v := zi (h.1 (w8 + 4) v1.toNatClampNeg)) (n := 22) rfl (by decide +kernel) rfl rfl fun hb9 => ?_
  refine zG_run t_Main [(.iload_n 2, 0, 0), (.iconst 2, 0, 0), (.isub, 0, 0)] (108, [some (zr (some (0, 0))), some (zi v1), some (zi v2)], [zi (v2 - 2), zi (h.1 (w8 + 4) v1.toNatClampNeg)], h) (by decide +kernel) rfl ?_
  refine zG_icmp (op := .le) (off := 19) (tgt := 127) (by decide +kernel) rfl Iff.rfl (fun c13 => ?_) (fun c13 => ?_)
  · refine zG_run t_Main [(.iconst (-1), 0, 0)] (128, [some (zr (some (0, 0))), some (zi v1), some (zi v2)], [zi (-1)], h) (by decide +kernel) rfl ?_
    exact zG_ret (r := some (zi (-1))) rfl (zrd_i rfl (by decide +kernel))
  · refine zG_run t_Main [(.aload_n 0, 0, 0), (.getfield 19, 0, 1)] (115, [some (zr (some (0, 0))), some (zi v1), some (zi v2)], [zr (h.2.2.1 0 1)], h) (by decide +kernel) rfl ?_
    refine zG_dyn fun w10 _ => ?_
    refine zG_run t_Main [(.getfield 131, 3, 11), (.iload_n 1, 0, 0)] (119, [some (zr (some (0, 0))), some (zi v1), some (zi v2)], [zi v1, zr (some (25, (w10 + 5)))], h) (by decide +kernel) rfl ?_
    refine zG_ald (v := zr (some (26, ((w10 + 5) + (1 + 1 * v1.toNatClampNeg))))) (n := 22) rfl (by decide +kernel) rfl rfl fun hb11 => ?_
    refine zG_run t_Main [(.iload_n 2, 0, 0), (.iconst 2, 0, 0), (.isub, 0, 0)] (123, [some (zr (some (0, 0))), some (zi v1), some (zi v2)], [zi (v2 - 2), zr (some (26, ((w10 + 5) + (1 + 1 * v1.toNatClampNeg))))], h) (by decide +kernel) rfl ?_
    refine zG_ald (v := zi (h.1 ((w10 + 5) + (1 + 1 * v1.toNatClampNeg)) (v2 - 2).toNatClampNeg)) (n := 3) rfl (by decide +kernel) rfl rfl fun hb12 => ?_
    refine zG_run t_Main [(.goto 4, 0, 0)] (128, [some (zr (some (0, 0))), some (zi v1), some (zi v2)], [zi (h.1 ((w10 + 5) + (1 + 1 * v1.toNatClampNeg)) (v2 - 2).toNatClampNeg)], h) (by decide +kernel) rfl ?_
    exact zG_ret (r := some (zi (h.1 ((w10 + 5) + (1 + 1 * v1.toNatClampNeg)) (v2 - 2).toNatClampNeg))) rfl (zrd_i rfl (by decide +kernel))
set_option maxRecDepth 20000 in
theorem k_Main_line {l : Launch} {X : zX} (hl : l.stackTraces = false) {h : zH} {v1 : Int32} {v2 : Int32} : zGl l m_Main_line X 2 12 (f_Main_line h v1 v2) (0, [some (zr (some (0, 0))), some (zi v1), some (zi v2)], [], h) (fun x => .inr ((Sum.elim (fun a => (.inl (some (zi a.1)), a.2)) (fun q => (.inr q.1, q.2)) : (Int32 × zH) ⊕ (Nat × zH) → zF) x)) := by
  unfold f_Main_line
  refine zG_run t_Main [(.aload_n 0, 0, 0), (.iload_n 1, 0, 0)] (2, [some (zr (some (0, 0))), some (zi v1), some (zi v2)], [zi v1, zr (some (0, 0))], h) (by decide +kernel) rfl ?_
  refine zG_mono (bc' := 1 + 1) (bs' := 6 + 6) (by decide) (by decide) ?_
  refine zG_callX (idx := 122) (R := (fun a => none)) (as := [zi v1]) (rest := []) (n := 1) (fun a h1 ha => c_Main_needLine hl ha) (fun k h1 ha => c_Main_needLine hl ha) (by decide +kernel) ⟨ok_Main_needLine, by decide, by decide +kernel⟩ rfl rfl w_223 w_224 w_225 (by decide) rfl rfl rfl (Nat.le_of_ble_eq_true rfl) (fun _ => rfl) fun x1 => ?_
  refine zG_run t_Main [(.iload_n 2, 0, 0)] (6, [some (zr (some (0, 0))), some (zi v1), some (zi v2)], [zi v2], x1.2) (by decide +kernel) rfl ?_
  refine zG_if (op := .lt) (off := 9) (tgt := 15) (by decide +kernel) rfl Iff.rfl (fun c36 => ?_) (fun c36 => ?_)
  · refine zG_mono (bc' := 1) (bs' := 6) (by decide) (by decide) ?_
    exact zG_forget (L' := [none, none, none]) (trivial) (k_Main_line_j15 hl)
  · refine zG_run t_Main [(.iload_n 2, 0, 0), (.bipush 9, 0, 0)] (12, [some (zr (some (0, 0))), some (zi v1), some (zi v2)], [zi 9, zi v2], x1.2) (by decide +kernel) rfl ?_
    refine zG_icmp (op := .le) (off := 11) (tgt := 23) (by decide +kernel) rfl Iff.rfl (fun c35 => ?_) (fun c35 => ?_)
    · refine zG_run t_Main [(.iload_n 2, 0, 0)] (24, [some (zr (some (0, 0))), some (zi v1), some (zi v2)], [zi v2], x1.2) (by decide +kernel) rfl ?_
      refine zG_case (fun c4 => ?_) (fun c4 => ?_)
      · refine zG_tin (k := 0) (off := 52) (tgt := 76) (dflt := 201) (lo := 0) (hi := 8) (offs := #[52, 62, 72, 72, 72, 105, 122, 151, 176]) (len := 52) c4 (by decide +kernel) (by decide +kernel) ?_
        refine zG_run t_Main [(.aload_n 0, 0, 0), (.getfield 19, 0, 1)] (80, [some (zr (some (0, 0))), some (zi v1), some (zi v2)], [zr (x1.2.2.2.1 0 1)], x1.2) (by decide +kernel) rfl ?_
        refine zG_dyn fun w2 _ => ?_
        refine zG_run t_Main [(.getfield 125, 3, 9), (.iload_n 1, 0, 0)] (84, [some (zr (some (0, 0))), some (zi v1), some (zi v2)], [zi v1, zr (some (23, (w2 + 3)))], x1.2) (by decide +kernel) rfl ?_
        refine zG_ald (v := zi (x1.2.1 (w2 + 3) v1.toNatClampNeg)) (n := 22) rfl (by decide +kernel) rfl rfl fun hb3 => ?_
        exact zG_ret (r := some (zi (x1.2.1 (w2 + 3) v1.toNatClampNeg))) rfl (zrd_i rfl (by decide +kernel))
      · refine zG_case (fun c7 => ?_) (fun c7 => ?_)
        · refine zG_tin (k := 1) (off := 62) (tgt := 86) (dflt := 201) (lo := 0) (hi := 8) (offs := #[52, 62, 72, 72, 72, 105, 122, 151, 176]) (len := 52) c7 (by decide +kernel) (by decide +kernel) ?_
          refine zG_run t_Main [(.aload_n 0, 0, 0), (.getfield 19, 0, 1)] (90, [some (zr (some (0, 0))), some (zi v1), some (zi v2)], [zr (x1.2.2.2.1 0 1)], x1.2) (by decide +kernel) rfl ?_
          refine zG_dyn fun w5 _ => ?_
          refine zG_run t_Main [(.getfield 128, 3, 10), (.iload_n 1, 0, 0)] (94, [some (zr (some (0, 0))), some (zi v1), some (zi v2)], [zi v1, zr (some (24, (w5 + 4)))], x1.2) (by decide +kernel) rfl ?_
          refine zG_ald (v := zi (x1.2.1 (w5 + 4) v1.toNatClampNeg)) (n := 22) rfl (by decide +kernel) rfl rfl fun hb6 => ?_
          exact zG_ret (r := some (zi (x1.2.1 (w5 + 4) v1.toNatClampNeg))) rfl (zrd_i rfl (by decide +kernel))
        · refine zG_case (fun c14 => ?_) (fun c14 => ?_)
          · refine zG_tin (k := 2) (off := 72) (tgt := 96) (dflt := 201) (lo := 0) (hi := 8) (offs := #[52, 62, 72, 72, 72, 105, 122, 151, 176]) (len := 52) c14 (by decide +kernel) (by decide +kernel) ?_
            refine zG_mono (bc' := 0) (bs' := 0) (by decide) (by decide) ?_
            exact zG_forget (L' := [some (zr (some (0, 0))), some (zi v1), some (zi v2)]) (And.intro rfl (And.intro rfl (And.intro rfl trivial))) (k_Main_line_j96 hl)
          · refine zG_case (fun c15 => ?_) (fun c15 => ?_)
            · refine zG_tin (k := 3) (off := 72) (tgt := 96) (dflt := 201) (lo := 0) (hi := 8) (offs := #[52, 62, 72, 72, 72, 105, 122, 151, 176]) (len := 52) c15 (by decide +kernel) (by decide +kernel) ?_
              refine zG_mono (bc' := 0) (bs' := 0) (by decide) (by decide) ?_
              exact zG_forget (L' := [some (zr (some (0, 0))), some (zi v1), some (zi v2)]) (And.intro rfl (And.intro rfl (And.intro rfl trivial))) (k_Main_line_j96 hl)
            · refine zG_case (fun c16 => ?_) (fun c16 => ?_)
              · refine zG_tin (k := 4) (off := 72) (tgt := 96) (dflt := 201) (lo := 0) (hi := 8) (offs := #[52, 62, 72, 72, 72, 105, 122, 151, 176]) (len := 52) c16 (by decide +kernel) (by decide +kernel) ?_
                refine zG_mono (bc' := 0) (bs' := 0) (by decide) (by decide) ?_
                exact zG_forget (L' := [some (zr (some (0, 0))), some (zi v1), some (zi v2)]) (And.intro rfl (And.intro rfl (And.intro rfl trivial))) (k_Main_line_j96 hl)
              · refine zG_case (fun c20 => ?_) (fun c20 => ?_)
                · refine zG_tin (k := 5) (off := 105) (tgt := 129) (dflt := 201) (lo := 0) (hi := 8) (offs := #[52, 62, 72, 72, 72, 105, 122, 151, 176]) (len := 52) c20 (by decide +kernel) (by decide +kernel) ?_
                  refine zG_run t_Main [(.aload_n 0, 0, 0), (.getfield 19, 0, 1)] (133, [some (zr (some (0, 0))), some (zi v1), some (zi v2)], [zr (x1.2.2.2.1 0 1)], x1.2) (by decide +kernel) rfl ?_
                  refine zG_dyn fun w17 _ => ?_
                  refine zG_run t_Main [(.iload_n 1, 0, 0)] (134, [some (zr (some (0, 0))), some (zi v1), some (zi v2)], [zi v1, zr (some (3, w17))], x1.2) (by decide +kernel) rfl ?_
                  refine zG_callV (idx := 135) (R := (fun a => (some (zi a), x1.2))) (as := [zi v1]) (rest := []) (n := 1) (fun a ha => c_Net_isSeen hl ha) (by decide +kernel) ⟨ok_Net_isSeen, by decide, by decide +kernel⟩ rfl w_226 w_126 w_127 (by decide) rfl rfl rfl (Nat.le_of_ble_eq_true rfl) fun x18 => ?_
                  refine zG_if (op := .eq) (off := 7) (tgt := 144) (by decide +kernel) rfl Iff.rfl (fun c19 => ?_) (fun c19 => ?_)
                  · refine zG_run t_Main [(.iconst 0, 0, 0)] (145, [some (zr (some (0, 0))), some (zi v1), some (zi v2)], [zi 0], x1.2) (by decide +kernel) rfl ?_
                    exact zG_ret (r := some (zi 0)) rfl (zrd_i rfl (by decide +kernel))
                  · refine zG_run t_Main [(.iconst 1, 0, 0), (.goto 4, 0, 0)] (145, [some (zr (some (0, 0))), some (zi v1), some (zi v2)], [zi 1], x1.2) (by decide +kernel) rfl ?_
                    exact zG_ret (r := some (zi 1)) rfl (zrd_i rfl (by decide +kernel))
                · refine zG_case (fun c22 => ?_) (fun c22 => ?_)
                  · refine zG_tin (k := 6) (off := 122) (tgt := 146) (dflt := 201) (lo := 0) (hi := 8) (offs := #[52, 62, 72, 72, 72, 105, 122, 151, 176]) (len := 52) c22 (by decide +kernel) (by decide +kernel) ?_
                    refine zG_run t_Main [(.aload_n 0, 0, 0), (.getfield 30, 0, 3), (.aload_n 0, 0, 0), (.getfield 58, 0, 7), (.getfield 139, 7, 0), (.getfield 142, 8, 2), (.iload_n 1, 0, 0), (.aload_n 0, 0, 0), (.getfield 58, 0, 7), (.getfield 139, 7, 0), (.getfield 145, 8, 0)] (171, [some (zr (some (0, 0))), some (zi v1), some (zi v2)], [zi (x1.2.1 156 0), zi v1, zi (x1.2.1 156 2), zr (some (1, 74))], x1.2) (by decide +kernel) rfl ?_
                    refine zG_callV (idx := 148) (R := (fun a => (some (zi a), x1.2))) (as := [zi (x1.2.1 156 2), zi v1, zi (x1.2.1 156 0)]) (rest := []) (n := 3) (fun a ha => c_Catalog_tell hl ha) (by decide +kernel) ⟨ok_Catalog_tell, by decide, by decide +kernel⟩ rfl w_227 w_228 w_229 (by decide) rfl rfl rfl (Nat.le_of_ble_eq_true rfl) fun x21 => ?_
                    exact zG_ret (r := some (zi x21)) rfl (zrd_i rfl (by decide +kernel))
                  · refine zG_case (fun c27 => ?_) (fun c27 => ?_)
                    · refine zG_tin (k := 7) (off := 151) (tgt := 175) (dflt := 201) (lo := 0) (hi := 8) (offs := #[52, 62, 72, 72, 72, 105, 122, 151, 176]) (len := 52) c27 (by decide +kernel) (by decide +kernel) ?_
                      refine zG_run t_Main [(.iload_n 1, 0, 0), (.aload_n 0, 0, 0), (.getfield 19, 0, 1)] (180, [some (zr (some (0, 0))), some (zi v1), some (zi v2)], [zr (x1.2.2.2.1 0 1), zi v1], x1.2) (by decide +kernel) rfl ?_
                      refine zG_dyn fun w23 _ => ?_
                      refine zG_run t_Main [(.getfield 152, 3, 0)] (183, [some (zr (some (0, 0))), some (zi v1), some (zi v2)], [zi (x1.2.1 w23 0), zi v1], x1.2) (by decide +kernel) rfl ?_
                      refine zG_icmp (op := .ge) (off := 15) (tgt := 198) (by decide +kernel) rfl Iff.rfl (fun c26 => ?_) (fun c26 => ?_)
                      · refine zG_run t_Main [(.iconst (-1), 0, 0)] (199, [some (zr (some (0, 0))), some (zi v1), some (zi v2)], [zi (-1)], x1.2) (by decide +kernel) rfl ?_
                        exact zG_ret (r := some (zi (-1))) rfl (zrd_i rfl (by decide +kernel))
                      · refine zG_run t_Main [(.aload_n 0, 0, 0), (.getfield 19, 0, 1)] (190, [some (zr (some (0, 0))), some (zi v1), some (zi v2)], [zr (x1.2.2.2.1 0 1)], x1.2) (by decide +kernel) rfl ?_
                        refine zG_dyn fun w24 _ => ?_
                        refine zG_run t_Main [(.getfield 153, 3, 12), (.iload_n 1, 0, 0)] (194, [some (zr (some (0, 0))), some (zi v1), some (zi v2)], [zi v1, zr (some (27, (w24 + 28)))], x1.2) (by decide +kernel) rfl ?_
                        refine zG_ald (v := zi (x1.2.1 (w24 + 28) v1.toNatClampNeg)) (n := 6) rfl (by decide +kernel) rfl rfl fun hb25 => ?_
                        refine zG_run t_Main [(.goto 4, 0, 0)] (199, [some (zr (some (0, 0))), some (zi v1), some (zi v2)], [zi (x1.2.1 (w24 + 28) v1.toNatClampNeg)], x1.2) (by decide +kernel) rfl ?_
                        exact zG_ret (r := some (zi (x1.2.1 (w24 + 28) v1.toNatClampNeg))) rfl (zrd_i rfl (by decide +kernel))
                    · refine zG_case (fun c32 => ?_) (fun c32 => ?_)
                      · refine zG_tin (k := 8) (off := 176) (tgt := 200) (dflt := 201) (lo := 0) (hi := 8) (offs := #[52, 62, 72, 72, 72, 105, 122, 151, 176]) (len := 52) c32 (by decide +kernel) (by decide +kernel) ?_
                        refine zG_run t_Main [(.iload_n 1, 0, 0), (.aload_n 0, 0, 0), (.getfield 19, 0, 1)] (205, [some (zr (some (0, 0))), some (zi v1), some (zi v2)], [zr (x1.2.2.2.1 0 1), zi v1], x1.2) (by decide +kernel) rfl ?_
                        refine zG_dyn fun w28 _ => ?_
                        refine zG_run t_Main [(.getfield 152, 3, 0)] (208, [some (zr (some (0, 0))), some (zi v1), some (zi v2)], [zi (x1.2.1 w28 0), zi v1], x1.2) (by decide +kernel) rfl ?_
                        refine zG_icmp (op := .ge) (off := 15) (tgt := 223) (by decide +kernel) rfl Iff.rfl (fun c31 => ?_) (fun c31 => ?_)
                        · refine zG_run t_Main [(.iconst (-1), 0, 0)] (224, [some (zr (some (0, 0))), some (zi v1), some (zi v2)], [zi (-1)], x1.2) (by decide +kernel) rfl ?_
                          exact zG_ret (r := some (zi (-1))) rfl (zrd_i rfl (by decide +kernel))
                        · refine zG_run t_Main [(.aload_n 0, 0, 0), (.getfield 19, 0, 1)] (215, [some (zr (some (0, 0))), some (zi v1), some (zi v2)], [zr (x1.2.2.2.1 0 1)], x1.2) (by decide +kernel) rfl ?_
                          refine zG_dyn fun w29 _ => ?_
                          refine zG_run t_Main [(.getfield 156, 3, 13), (.iload_n 1, 0, 0)] (219, [some (zr (some (0, 0))), some (zi v1), some (zi v2)], [zi v1, zr (some (28, (w29 + 29)))], x1.2) (by decide +kernel) rfl ?_
                          refine zG_ald (v := zi (x1.2.1 (w29 + 29) v1.toNatClampNeg)) (n := 6) rfl (by decide +kernel) rfl rfl fun hb30 => ?_
                          refine zG_run t_Main [(.goto 4, 0, 0)] (224, [some (zr (some (0, 0))), some (zi v1), some (zi v2)], [zi (x1.2.1 (w29 + 29) v1.toNatClampNeg)], x1.2) (by decide +kernel) rfl ?_
                          exact zG_ret (r := some (zi (x1.2.1 (w29 + 29) v1.toNatClampNeg))) rfl (zrd_i rfl (by decide +kernel))
                      · have e0 : Int32.toInt v2 ≠ 0 := zne (k := 0) c4
                        have e1 : Int32.toInt v2 ≠ 1 := zne (k := 1) c7
                        have e2 : Int32.toInt v2 ≠ 2 := zne (k := 2) c14
                        have e3 : Int32.toInt v2 ≠ 3 := zne (k := 3) c15
                        have e4 : Int32.toInt v2 ≠ 4 := zne (k := 4) c16
                        have e5 : Int32.toInt v2 ≠ 5 := zne (k := 5) c20
                        have e6 : Int32.toInt v2 ≠ 6 := zne (k := 6) c22
                        have e7 : Int32.toInt v2 ≠ 7 := zne (k := 7) c27
                        have e8 : Int32.toInt v2 ≠ 8 := zne (k := 8) c32
                        refine zG_tout (tgt := 225) (dflt := 201) (lo := 0) (hi := 8) (offs := #[52, 62, 72, 72, 72, 105, 122, 151, 176]) (len := 52) (by omega) (by decide +kernel) rfl ?_
                        refine zG_run t_Main [(.aload_n 0, 0, 0), (.getfield 19, 0, 1)] (229, [some (zr (some (0, 0))), some (zi v1), some (zi v2)], [zr (x1.2.2.2.1 0 1)], x1.2) (by decide +kernel) rfl ?_
                        refine zG_dyn fun w33 _ => ?_
                        refine zG_run t_Main [(.getfield 159, 3, 8), (.iload_n 1, 0, 0)] (233, [some (zr (some (0, 0))), some (zi v1), some (zi v2)], [zi v1, zr (some (22, (w33 + 2)))], x1.2) (by decide +kernel) rfl ?_
                        refine zG_ald (v := zi (x1.2.1 (w33 + 2) v1.toNatClampNeg)) (n := 22) rfl (by decide +kernel) rfl rfl fun hb34 => ?_
                        exact zG_ret (r := some (zi (x1.2.1 (w33 + 2) v1.toNatClampNeg))) rfl (zrd_i rfl (by decide +kernel))
    · refine zG_mono (bc' := 1) (bs' := 6) (by decide) (by decide) ?_
      exact zG_forget (L' := [none, none, none]) (trivial) (k_Main_line_j15 hl)
theorem c_Main_line {l : Launch} {X : zX} (hl : l.stackTraces = false) {h : zH} {v1 : Int32} {v2 : Int32} {x : (Int32 × zH) ⊕ (Nat × zH)} (hx : f_Main_line h v1 v2 = some x) : zCt l (true, 2) 2 m_Main_line X 2 12 [zr (some (0, 0)), zi v1, zi v2] h ((Sum.elim (fun a => (.inl (some (zi a.1)), a.2)) (fun q => (.inr q.1, q.2)) : (Int32 × zH) ⊕ (Nat × zH) → zF) x) :=
  zG_ct (R := Sum.elim (fun a => (.inl (some (zi a.1)), a.2)) (fun q => (.inr q.1, q.2))) (x := x) ok_Main_line hl (Nat.le_of_ble_eq_true rfl) hx (k_Main_line hl)
def m_Main_letter : zM := (({ cls := "ScanPacker", name := "letter", desc := "(II)I" } : Jvm.MethodName), prog_1_method_7_code, 3, (Option.some Jvm.ClassFile.FieldType.int), [], 7)
theorem ok_Main_letter : zMok m_Main_letter := ⟨by decide +kernel, zW_of 1158 (by decide +kernel) (by decide +kernel), zW_of 122 (by decide +kernel) (by decide +kernel), by decide, by decide +kernel, by decide +kernel⟩
set_option maxRecDepth 20000 in
theorem k_Main_letter_j22 {l : Launch} {X : zX} (hl : l.stackTraces = false) {h : zH} : zGl l m_Main_letter X 1 6 (f_Main_letter_j22 h) (22, [none, none, none], [], h) (fun x => .inr ((Sum.elim (fun a => (.inl (some (zi a.1)), a.2)) (fun q => (.inr q.1, q.2)) : (Int32 × zH) ⊕ (Nat × zH) → zF) x)) := by
  unfold f_Main_letter_j22
  refine zG_mono (bc' := 0 + 1) (bs' := 0 + 6) (by decide) (by decide) ?_
  exact zG_throw (k := 1) (ik := 109) (ic := 111) rfl (Or.inl rfl) (by decide +kernel) (by decide +kernel) (by decide +kernel) (by decide +kernel) w_176 w_177 (by decide +kernel) (by decide +kernel) (Nat.le_of_ble_eq_true rfl) (by decide) rfl
set_option maxRecDepth 20000 in
theorem k_Main_letter {l : Launch} {X : zX} (hl : l.stackTraces = false) {h : zH} {v1 : Int32} {v2 : Int32} : zGl l m_Main_letter X 2 12 (f_Main_letter h v1 v2) (0, [some (zr (some (0, 0))), some (zi v1), some (zi v2)], [], h) (fun x => .inr ((Sum.elim (fun a => (.inl (some (zi a.1)), a.2)) (fun q => (.inr q.1, q.2)) : (Int32 × zH) ⊕ (Nat × zH) → zF) x)) := by
  unfold f_Main_letter
  refine zG_run t_Main [(.aload_n 0, 0, 0), (.iload_n 1, 0, 0)] (2, [some (zr (some (0, 0))), some (zi v1), some (zi v2)], [zi v1, zr (some (0, 0))], h) (by decide +kernel) rfl ?_
  refine zG_mono (bc' := 1 + 1) (bs' := 6 + 6) (by decide) (by decide) ?_
  refine zG_callX (idx := 122) (R := (fun a => none)) (as := [zi v1]) (rest := []) (n := 1) (fun a h1 ha => c_Main_needLine hl ha) (fun k h1 ha => c_Main_needLine hl ha) (by decide +kernel) ⟨ok_Main_needLine, by decide, by decide +kernel⟩ rfl rfl w_223 w_224 w_225 (by decide) rfl rfl rfl (Nat.le_of_ble_eq_true rfl) (fun _ => rfl) fun x1 => ?_
  refine zG_run t_Main [(.iload_n 2, 0, 0)] (6, [some (zr (some (0, 0))), some (zi v1), some (zi v2)], [zi v2], x1.2) (by decide +kernel) rfl ?_
  refine zG_if (op := .lt) (off := 16) (tgt := 22) (by decide +kernel) rfl Iff.rfl (fun c9 => ?_) (fun c9 => ?_)
  · refine zG_mono (bc' := 1) (bs' := 6) (by decide) (by decide) ?_
    exact zG_forget (L' := [none, none, none]) (trivial) (k_Main_letter_j22 hl)
  · refine zG_run t_Main [(.iload_n 2, 0, 0), (.aload_n 0, 0, 0), (.getfield 19, 0, 1)] (14, [some (zr (some (0, 0))), some (zi v1), some (zi v2)], [zr (x1.2.2.2.1 0 1), zi v2], x1.2) (by decide +kernel) rfl ?_
    refine zG_dyn fun w2 _ => ?_
    refine zG_run t_Main [(.getfield 159, 3, 8), (.iload_n 1, 0, 0)] (18, [some (zr (some (0, 0))), some (zi v1), some (zi v2)], [zi v1, zr (some (22, (w2 + 2))), zi v2], x1.2) (by decide +kernel) rfl ?_
    refine zG_ald (v := zi (x1.2.1 (w2 + 2) v1.toNatClampNeg)) (n := 22) rfl (by decide +kernel) rfl rfl fun hb3 => ?_
    refine zG_icmp (op := .lt) (off := 11) (tgt := 30) (by decide +kernel) rfl Iff.rfl (fun c8 => ?_) (fun c8 => ?_)
    · refine zG_run t_Main [(.aload_n 0, 0, 0), (.getfield 19, 0, 1)] (34, [some (zr (some (0, 0))), some (zi v1), some (zi v2)], [zr (x1.2.2.2.1 0 1)], x1.2) (by decide +kernel) rfl ?_
      refine zG_dyn fun w4 _ => ?_
      refine zG_run t_Main [(.getfield 162, 3, 7), (.iload_n 1, 0, 0)] (38, [some (zr (some (0, 0))), some (zi v1), some (zi v2)], [zi v1, zr (some (21, (w4 + 1)))], x1.2) (by decide +kernel) rfl ?_
      refine zG_ald (v := zi (x1.2.1 (w4 + 1) v1.toNatClampNeg)) (n := 22) rfl (by decide +kernel) rfl rfl fun hb5 => ?_
      refine zG_run t_Main [(.iconst 5, 0, 0), (.aload_n 0, 0, 0), (.getfield 19, 0, 1)] (44, [some (zr (some (0, 0))), some (zi v1), some (zi v2)], [zr (x1.2.2.2.1 0 1), zi 5, zi (x1.2.1 (w4 + 1) v1.toNatClampNeg)], x1.2) (by decide +kernel) rfl ?_
      refine zG_dyn fun w6 _ => ?_
      refine zG_run t_Main [(.getfield 159, 3, 8), (.iload_n 1, 0, 0)] (48, [some (zr (some (0, 0))), some (zi v1), some (zi v2)], [zi v1, zr (some (22, (w6 + 2))), zi 5, zi (x1.2.1 (w4 + 1) v1.toNatClampNeg)], x1.2) (by decide +kernel) rfl ?_
      refine zG_ald (v := zi (x1.2.1 (w6 + 2) v1.toNatClampNeg)) (n := 22) rfl (by decide +kernel) rfl rfl fun hb7 => ?_
      refine zG_run t_Main [(.iconst 1, 0, 0), (.isub, 0, 0), (.iload_n 2, 0, 0), (.isub, 0, 0), (.imul, 0, 0), (.iushr, 0, 0), (.bipush 31, 0, 0), (.iand, 0, 0)] (58, [some (zr (some (0, 0))), some (zi v1), some (zi v2)], [zi ((zushr (x1.2.1 (w4 + 1) v1.toNatClampNeg) (5 * (((x1.2.1 (w6 + 2) v1.toNatClampNeg) - 1) - v2))) &&& 31)], x1.2) (by decide +kernel) rfl ?_
      exact zG_ret (r := some (zi ((zushr (x1.2.1 (w4 + 1) v1.toNatClampNeg) (5 * (((x1.2.1 (w6 + 2) v1.toNatClampNeg) - 1) - v2))) &&& 31))) rfl (zrd_i rfl (by decide +kernel))
    · refine zG_mono (bc' := 1) (bs' := 6) (by decide) (by decide) ?_
      exact zG_forget (L' := [none, none, none]) (trivial) (k_Main_letter_j22 hl)
theorem c_Main_letter {l : Launch} {X : zX} (hl : l.stackTraces = false) {h : zH} {v1 : Int32} {v2 : Int32} {x : (Int32 × zH) ⊕ (Nat × zH)} (hx : f_Main_letter h v1 v2 = some x) : zCt l (true, 2) 2 m_Main_letter X 2 12 [zr (some (0, 0)), zi v1, zi v2] h ((Sum.elim (fun a => (.inl (some (zi a.1)), a.2)) (fun q => (.inr q.1, q.2)) : (Int32 × zH) ⊕ (Nat × zH) → zF) x) :=
  zG_ct (R := Sum.elim (fun a => (.inl (some (zi a.1)), a.2)) (fun q => (.inr q.1, q.2))) (x := x) ok_Main_letter hl (Nat.le_of_ble_eq_true rfl) hx (k_Main_letter hl)
def m_Main_needCell : zM := (({ cls := "ScanPacker", name := "needCell", desc := "(II)V" } : Jvm.MethodName), prog_1_method_45_code, 3, (Option.none : Option Jvm.ClassFile.FieldType), [], 6)
theorem ok_Main_needCell : zMok m_Main_needCell := ⟨by decide +kernel, zW_of 1169 (by decide +kernel) (by decide +kernel), zW_of 122 (by decide +kernel) (by decide +kernel), by decide, by decide +kernel, by decide +kernel⟩
set_option maxRecDepth 20000 in
theorem k_Main_needCell_j33 {l : Launch} {X : zX} (hl : l.stackTraces = false) {h : zH} : zGl l m_Main_needCell X 1 6 (f_Main_needCell_j33 h) (33, [none, none, none], [], h) (fun x => .inr ((Sum.elim (fun a => (.inl (none), a.2)) (fun q => (.inr q.1, q.2)) : (Unit × zH) ⊕ (Nat × zH) → zF) x)) := by
  unfold f_Main_needCell_j33
  refine zG_mono (bc' := 0 + 1) (bs' := 0 + 6) (by decide) (by decide) ?_
  exact zG_throw (k := 1) (ik := 109) (ic := 111) rfl (Or.inl rfl) (by decide +kernel) (by decide +kernel) (by decide +kernel) (by decide +kernel) w_176 w_177 (by decide +kernel) (by decide +kernel) (Nat.le_of_ble_eq_true rfl) (by decide) rfl
set_option maxRecDepth 20000 in
theorem k_Main_needCell {l : Launch} {X : zX} (hl : l.stackTraces = false) {h : zH} {v1 : Int32} {v2 : Int32} : zGl l m_Main_needCell X 1 6 (f_Main_needCell h v1 v2) (0, [some (zr (some (0, 0))), some (zi v1), some (zi v2)], [], h) (fun x => .inr ((Sum.elim (fun a => (.inl (none), a.2)) (fun q => (.inr q.1, q.2)) : (Unit × zH) ⊕ (Nat × zH) → zF) x)) := by
  unfold f_Main_needCell
  refine zG_run t_Main [(.iload_n 1, 0, 0)] (1, [some (zr (some (0, 0))), some (zi v1), some (zi v2)], [zi v1], h) (by decide +kernel) rfl ?_
  refine zG_if (op := .lt) (off := 32) (tgt := 33) (by decide +kernel) rfl Iff.rfl (fun c7 => ?_) (fun c7 => ?_)
  · refine zG_mono (bc' := 1) (bs' := 6) (by decide) (by decide) ?_
    exact zG_forget (L' := [none, none, none]) (trivial) (k_Main_needCell_j33 hl)
  · refine zG_run t_Main [(.iload_n 1, 0, 0), (.aload_n 0, 0, 0), (.getfield 19, 0, 1)] (9, [some (zr (some (0, 0))), some (zi v1), some (zi v2)], [zr (h.2.2.1 0 1), zi v1], h) (by decide +kernel) rfl ?_
    refine zG_dyn fun w1 _ => ?_
    refine zG_run t_Main [(.getfield 278, 3, 2)] (12, [some (zr (some (0, 0))), some (zi v1), some (zi v2)], [zi (h.1 w1 2), zi v1], h) (by decide +kernel) rfl ?_
    refine zG_icmp (op := .ge) (off := 21) (tgt := 33) (by decide +kernel) rfl Iff.rfl (fun c6 => ?_) (fun c6 => ?_)
    · refine zG_mono (bc' := 1) (bs' := 6) (by decide) (by decide) ?_
      exact zG_forget (L' := [none, none, none]) (trivial) (k_Main_needCell_j33 hl)
    · refine zG_run t_Main [(.iload_n 2, 0, 0), (.iconst (-1), 0, 0)] (17, [some (zr (some (0, 0))), some (zi v1), some (zi v2)], [zi (-1), zi v2], h) (by decide +kernel) rfl ?_
      refine zG_icmp (op := .lt) (off := 16) (tgt := 33) (by decide +kernel) rfl Iff.rfl (fun c5 => ?_) (fun c5 => ?_)
      · refine zG_mono (bc' := 1) (bs' := 6) (by decide) (by decide) ?_
        exact zG_forget (L' := [none, none, none]) (trivial) (k_Main_needCell_j33 hl)
      · refine zG_run t_Main [(.iload_n 2, 0, 0), (.aload_n 0, 0, 0), (.getfield 19, 0, 1)] (25, [some (zr (some (0, 0))), some (zi v1), some (zi v2)], [zr (h.2.2.1 0 1), zi v2], h) (by decide +kernel) rfl ?_
        refine zG_dyn fun w2 _ => ?_
        refine zG_run t_Main [(.getfield 169, 3, 15), (.iload_n 1, 0, 0)] (29, [some (zr (some (0, 0))), some (zi v1), some (zi v2)], [zi v1, zr (some (31, (w2 + 34))), zi v2], h) (by decide +kernel) rfl ?_
        refine zG_ald (v := zi (h.1 (w2 + 34) v1.toNatClampNeg)) (n := 3) rfl (by decide +kernel) rfl rfl fun hb3 => ?_
        refine zG_icmp (op := .lt) (off := 11) (tgt := 41) (by decide +kernel) rfl Iff.rfl (fun c4 => ?_) (fun c4 => ?_)
        · exact zG_ret (r := none) rfl (zrd_v rfl (by decide +kernel))
        · refine zG_mono (bc' := 1) (bs' := 6) (by decide) (by decide) ?_
          exact zG_forget (L' := [none, none, none]) (trivial) (k_Main_needCell_j33 hl)
theorem c_Main_needCell {l : Launch} {X : zX} (hl : l.stackTraces = false) {h : zH} {v1 : Int32} {v2 : Int32} {x : (Unit × zH) ⊕ (Nat × zH)} (hx : f_Main_needCell h v1 v2 = some x) : zCt l (true, 2) 2 m_Main_needCell X 1 6 [zr (some (0, 0)), zi v1, zi v2] h ((Sum.elim (fun a => (.inl (none), a.2)) (fun q => (.inr q.1, q.2)) : (Unit × zH) ⊕ (Nat × zH) → zF) x) :=
  zG_ct (R := Sum.elim (fun a => (.inl (none), a.2)) (fun q => (.inr q.1, q.2))) (x := x) ok_Main_needCell hl (Nat.le_of_ble_eq_true rfl) hx (k_Main_needCell hl)
def m_Main_chain : zM := (({ cls := "ScanPacker", name := "chain", desc := "(II)I" } : Jvm.MethodName), prog_1_method_8_code, 3, (Option.some Jvm.ClassFile.FieldType.int), [], 7)
theorem ok_Main_chain : zMok m_Main_chain := ⟨by decide +kernel, zW_of 1165 (by decide +kernel) (by decide +kernel), zW_of 122 (by decide +kernel) (by decide +kernel), by decide, by decide +kernel, by decide +kernel⟩
set_option maxRecDepth 20000 in
theorem k_Main_chain {l : Launch} {X : zX} (hl : l.stackTraces = false) {h : zH} {v1 : Int32} {v2 : Int32} : zGl l m_Main_chain X 1 6 (f_Main_chain h v1 v2) (0, [some (zr (some (0, 0))), some (zi v1), some (zi v2)], [], h) (fun x => .inr ((Sum.elim (fun a => (.inl (some (zi a.1)), a.2)) (fun q => (.inr q.1, q.2)) : (Int32 × zH) ⊕ (Nat × zH) → zF) x)) := by
  unfold f_Main_chain
  refine zG_run t_Main [(.aload_n 0, 0, 0), (.iload_n 1, 0, 0), (.iload_n 2, 0, 0)] (3, [some (zr (some (0, 0))), some (zi v1), some (zi v2)], [zi v2, zi v1, zr (some (0, 0))], h) (by decide +kernel) rfl ?_
  refine zG_mono (bc' := 0 + 1) (bs' := 0 + 6) (by decide) (by decide) ?_
  refine zG_callX (idx := 165) (R := (fun a => none)) (as := [zi v1, zi v2]) (rest := []) (n := 2) (fun a h1 ha => c_Main_needCell hl ha) (fun k h1 ha => c_Main_needCell hl ha) (by decide +kernel) ⟨ok_Main_needCell, by decide, by decide +kernel⟩ rfl rfl w_230 w_231 w_232 (by decide) rfl rfl rfl (Nat.le_of_ble_eq_true rfl) (fun _ => rfl) fun x1 => ?_
  refine zG_run t_Main [(.iload_n 2, 0, 0), (.iconst (-1), 0, 0)] (8, [some (zr (some (0, 0))), some (zi v1), some (zi v2)], [zi (-1), zi v2], x1.2) (by decide +kernel) rfl ?_
  refine zG_icmp (op := .ne) (off := 15) (tgt := 23) (by decide +kernel) rfl Iff.rfl (fun c7 => ?_) (fun c7 => ?_)
  · refine zG_run t_Main [(.aload_n 0, 0, 0), (.getfield 19, 0, 1)] (27, [some (zr (some (0, 0))), some (zi v1), some (zi v2)], [zr (x1.2.2.2.1 0 1)], x1.2) (by decide +kernel) rfl ?_
    refine zG_dyn fun w2 _ => ?_
    refine zG_run t_Main [(.getfield 172, 3, 14), (.iload_n 1, 0, 0)] (31, [some (zr (some (0, 0))), some (zi v1), some (zi v2)], [zi v1, zr (some (29, (w2 + 30)))], x1.2) (by decide +kernel) rfl ?_
    refine zG_ald (v := zr (some (30, ((w2 + 30) + (1 + 1 * v1.toNatClampNeg))))) (n := 3) rfl (by decide +kernel) rfl rfl fun hb3 => ?_
    refine zG_run t_Main [(.iload_n 2, 0, 0)] (33, [some (zr (some (0, 0))), some (zi v1), some (zi v2)], [zi v2, zr (some (30, ((w2 + 30) + (1 + 1 * v1.toNatClampNeg))))], x1.2) (by decide +kernel) rfl ?_
    refine zG_ald (v := zi (x1.2.1 ((w2 + 30) + (1 + 1 * v1.toNatClampNeg)) v2.toNatClampNeg)) (n := 6) rfl (by decide +kernel) rfl rfl fun hb4 => ?_
    exact zG_ret (r := some (zi (x1.2.1 ((w2 + 30) + (1 + 1 * v1.toNatClampNeg)) v2.toNatClampNeg))) rfl (zrd_i rfl (by decide +kernel))
  · refine zG_run t_Main [(.aload_n 0, 0, 0), (.getfield 19, 0, 1)] (15, [some (zr (some (0, 0))), some (zi v1), some (zi v2)], [zr (x1.2.2.2.1 0 1)], x1.2) (by decide +kernel) rfl ?_
    refine zG_dyn fun w5 _ => ?_
    refine zG_run t_Main [(.getfield 169, 3, 15), (.iload_n 1, 0, 0)] (19, [some (zr (some (0, 0))), some (zi v1), some (zi v2)], [zi v1, zr (some (31, (w5 + 34)))], x1.2) (by decide +kernel) rfl ?_
    refine zG_ald (v := zi (x1.2.1 (w5 + 34) v1.toNatClampNeg)) (n := 3) rfl (by decide +kernel) rfl rfl fun hb6 => ?_
    refine zG_run t_Main [(.goto 14, 0, 0)] (34, [some (zr (some (0, 0))), some (zi v1), some (zi v2)], [zi (x1.2.1 (w5 + 34) v1.toNatClampNeg)], x1.2) (by decide +kernel) rfl ?_
    exact zG_ret (r := some (zi (x1.2.1 (w5 + 34) v1.toNatClampNeg))) rfl (zrd_i rfl (by decide +kernel))
theorem c_Main_chain {l : Launch} {X : zX} (hl : l.stackTraces = false) {h : zH} {v1 : Int32} {v2 : Int32} {x : (Int32 × zH) ⊕ (Nat × zH)} (hx : f_Main_chain h v1 v2 = some x) : zCt l (true, 2) 2 m_Main_chain X 1 6 [zr (some (0, 0)), zi v1, zi v2] h ((Sum.elim (fun a => (.inl (some (zi a.1)), a.2)) (fun q => (.inr q.1, q.2)) : (Int32 × zH) ⊕ (Nat × zH) → zF) x) :=
  zG_ct (R := Sum.elim (fun a => (.inl (some (zi a.1)), a.2)) (fun q => (.inr q.1, q.2))) (x := x) ok_Main_chain hl (Nat.le_of_ble_eq_true rfl) hx (k_Main_chain hl)
def m_Catalog_isFault : zM := (({ cls := "ScanPacker$Catalog", name := "isFault", desc := "(I)Z" } : Jvm.MethodName), prog_2_method_3_code, 2, (Option.some Jvm.ClassFile.FieldType.boolean), [], 1)
theorem ok_Catalog_isFault : zMok m_Catalog_isFault := ⟨by decide +kernel, zW_of 821 (by decide +kernel) (by decide +kernel), zW_of 126 (by decide +kernel) (by decide +kernel), by decide, by decide +kernel, by decide +kernel⟩
set_option maxRecDepth 20000 in
theorem k_Catalog_isFault {l : Launch} {X : zX} (hl : l.stackTraces = false) {h : zH} {v1 : Int32} : zGl l m_Catalog_isFault X 0 0 (f_Catalog_isFault h v1) (0, [some (zr (some (1, 74))), some (zi v1)], [], h) (fun x => .inr ((fun a => (.inl (some (zi a)), h) : Int32 → zF) x)) := by
  unfold f_Catalog_isFault
  refine zG_run t_Catalog [(.iload_n 1, 0, 0)] (1, [some (zr (some (1, 74))), some (zi v1)], [zi v1], h) (by decide +kernel) rfl ?_
  refine zG_if (op := .lt) (off := 15) (tgt := 16) (by decide +kernel) rfl Iff.rfl (fun c2 => ?_) (fun c2 => ?_)
  · refine zG_run t_Catalog [(.iconst 0, 0, 0)] (17, [some (zr (some (1, 74))), some (zi v1)], [zi 0], h) (by decide +kernel) rfl ?_
    exact zG_ret (r := some (zi 0)) rfl (zrd_z rfl (by decide +kernel) rfl)
  · refine zG_run t_Catalog [(.iload_n 1, 0, 0), (.aload_n 0, 0, 0), (.getfield 52, 1, 0)] (9, [some (zr (some (1, 74))), some (zi v1)], [zi (h.1 74 0), zi v1], h) (by decide +kernel) rfl ?_
    refine zG_icmp (op := .ge) (off := 7) (tgt := 16) (by decide +kernel) rfl Iff.rfl (fun c1 => ?_) (fun c1 => ?_)
    · refine zG_run t_Catalog [(.iconst 0, 0, 0)] (17, [some (zr (some (1, 74))), some (zi v1)], [zi 0], h) (by decide +kernel) rfl ?_
      exact zG_ret (r := some (zi 0)) rfl (zrd_z rfl (by decide +kernel) rfl)
    · refine zG_run t_Catalog [(.iconst 1, 0, 0), (.goto 4, 0, 0)] (17, [some (zr (some (1, 74))), some (zi v1)], [zi 1], h) (by decide +kernel) rfl ?_
      exact zG_ret (r := some (zi 1)) rfl (zrd_z rfl (by decide +kernel) rfl)
theorem c_Catalog_isFault {l : Launch} {X : zX} (hl : l.stackTraces = false) {h : zH} {v1 : Int32} {x : Int32} (hx : f_Catalog_isFault h v1 = some x) : zCt l (true, 2) 2 m_Catalog_isFault X 0 0 [zr (some (1, 74)), zi v1] h ((fun a => (.inl (some (zi a)), h) : Int32 → zF) x) :=
  zG_ct (R := fun a => (.inl (some (zi a)), h)) (x := x) ok_Catalog_isFault hl (Nat.le_of_ble_eq_true rfl) hx (k_Catalog_isFault hl)
def m_Main_needFault : zM := (({ cls := "ScanPacker", name := "needFault", desc := "(I)V" } : Jvm.MethodName), prog_1_method_44_code, 2, (Option.none : Option Jvm.ClassFile.FieldType), [], 6)
theorem ok_Main_needFault : zMok m_Main_needFault := ⟨by decide +kernel, zW_of 1180 (by decide +kernel) (by decide +kernel), zW_of 122 (by decide +kernel) (by decide +kernel), by decide, by decide +kernel, by decide +kernel⟩
set_option maxRecDepth 20000 in
theorem k_Main_needFault {l : Launch} {X : zX} (hl : l.stackTraces = false) {h : zH} {v1 : Int32} : zGl l m_Main_needFault X 1 6 (f_Main_needFault h v1) (0, [some (zr (some (0, 0))), some (zi v1)], [], h) (fun x => .inr ((Sum.elim (fun a => (.inl (none), a.2)) (fun q => (.inr q.1, q.2)) : (Unit × zH) ⊕ (Nat × zH) → zF) x)) := by
  unfold f_Main_needFault
  refine zG_run t_Main [(.aload_n 0, 0, 0), (.getfield 30, 0, 3), (.iload_n 1, 0, 0)] (5, [some (zr (some (0, 0))), some (zi v1)], [zi v1, zr (some (1, 74))], h) (by decide +kernel) rfl ?_
  refine zG_callV (idx := 301) (R := (fun a => (some (zi a), h))) (as := [zi v1]) (rest := []) (n := 1) (fun a ha => c_Catalog_isFault hl ha) (by decide +kernel) ⟨ok_Catalog_isFault, by decide, by decide +kernel⟩ rfl w_233 w_234 w_235 (by decide) rfl rfl rfl (Nat.le_of_ble_eq_true rfl) fun x1 => ?_
  refine zG_if (op := .ne) (off := 11) (tgt := 19) (by decide +kernel) rfl Iff.rfl (fun c2 => ?_) (fun c2 => ?_)
  · exact zG_ret (r := none) rfl (zrd_v rfl (by decide +kernel))
  · refine zG_mono (bc' := 0 + 1) (bs' := 0 + 6) (by decide) (by decide) ?_
    exact zG_throw (k := 1) (ik := 109) (ic := 111) rfl (Or.inl rfl) (by decide +kernel) (by decide +kernel) (by decide +kernel) (by decide +kernel) w_176 w_177 (by decide +kernel) (by decide +kernel) (Nat.le_of_ble_eq_true rfl) (by decide) rfl
theorem c_Main_needFault {l : Launch} {X : zX} (hl : l.stackTraces = false) {h : zH} {v1 : Int32} {x : (Unit × zH) ⊕ (Nat × zH)} (hx : f_Main_needFault h v1 = some x) : zCt l (true, 2) 2 m_Main_needFault X 1 6 [zr (some (0, 0)), zi v1] h ((Sum.elim (fun a => (.inl (none), a.2)) (fun q => (.inr q.1, q.2)) : (Unit × zH) ⊕ (Nat × zH) → zF) x) :=
  zG_ct (R := Sum.elim (fun a => (.inl (none), a.2)) (fun q => (.inr q.1, q.2))) (x := x) ok_Main_needFault hl (Nat.le_of_ble_eq_true rfl) hx (k_Main_needFault hl)
def m_Catalog_whyLost : zM := (({ cls := "ScanPacker$Catalog", name := "whyLost", desc := "(I)I" } : Jvm.MethodName), prog_2_method_14_code, 4, (Option.some Jvm.ClassFile.FieldType.int), [], 2)
theorem ok_Catalog_whyLost : zMok m_Catalog_whyLost := ⟨by decide +kernel, zW_of 1184 (by decide +kernel) (by decide +kernel), zW_of 126 (by decide +kernel) (by decide +kernel), by decide, by decide +kernel, by decide +kernel⟩
set_option maxRecDepth 20000 in
theorem k_Catalog_whyLost_j25 {l : Launch} {X : zX} (hl : l.stackTraces = false) {h : zH} {v1 : Int32} {t0 : Int64} : zGl l m_Catalog_whyLost X 0 0 (f_Catalog_whyLost_j25 h v1 t0) (25, [some (zr (some (1, 74))), some (zi v1), none, none], [zl t0], h) (fun x => .inr ((fun a => (.inl (some (zi a)), h) : Int32 → zF) x)) := by
  unfold f_Catalog_whyLost_j25
  refine zG_run t_Catalog [(.lstore_n 2, 0, 0), (.aload_n 0, 0, 0), (.getfield 11, 1, 4), (.iconst 0, 0, 0)] (31, [some (zr (some (1, 74))), some (zi v1), some (zl t0), none], [zi 0, zr (some (32, 75))], h) (by decide +kernel) rfl ?_
  refine zG_aldc (v := zr (some (33, 76))) rfl (by decide +kernel) (by decide +kernel) rfl ?_
  refine zG_run t_Catalog [(.iload_n 1, 0, 0), (.iconst 2, 0, 0)] (34, [some (zr (some (1, 74))), some (zi v1), some (zl t0), none], [zi 2, zi v1, zr (some (33, 76))], h) (by decide +kernel) rfl ?_
  refine zG_idivc (by decide +kernel) (by decide) ?_
  refine zG_ald (v := zl (h.2.1 76 (v1 / 2).toNatClampNeg)) (n := 22) rfl (by decide +kernel) rfl rfl fun hb2 => ?_
  refine zG_run t_Catalog [(.lload_n 2, 0, 0), (.lcmp, 0, 0)] (38, [some (zr (some (1, 74))), some (zi v1), some (zl t0), none], [zi (lg_cmp (h.2.1 76 (v1 / 2).toNatClampNeg) t0)], h) (by decide +kernel) rfl ?_
  refine zG_if (op := .ne) (off := 7) (tgt := 45) (by decide +kernel) rfl (not_congr zcmp0) (fun c3 => ?_) (fun c3 => ?_)
  · refine zG_run t_Catalog [(.iconst 2, 0, 0)] (46, [some (zr (some (1, 74))), some (zi v1), some (zl t0), none], [zi 2], h) (by decide +kernel) rfl ?_
    exact zG_ret (r := some (zi 2)) rfl (zrd_i rfl (by decide +kernel))
  · refine zG_run t_Catalog [(.iconst 1, 0, 0), (.goto 4, 0, 0)] (46, [some (zr (some (1, 74))), some (zi v1), some (zl t0), none], [zi 1], h) (by decide +kernel) rfl ?_
    exact zG_ret (r := some (zi 1)) rfl (zrd_i rfl (by decide +kernel))
set_option maxRecDepth 20000 in
theorem k_Catalog_whyLost {l : Launch} {X : zX} (hl : l.stackTraces = false) {h : zH} {v1 : Int32} : zGl l m_Catalog_whyLost X 0 0 (f_Catalog_whyLost h v1) (0, [some (zr (some (1, 74))), some (zi v1), none, none], [], h) (fun x => .inr ((fun a => (.inl (some (zi a)), h) : Int32 → zF) x)) := by
  unfold f_Catalog_whyLost
  refine zG_run t_Catalog [(.aload_n 0, 0, 0), (.iload_n 1, 0, 0)] (2, [some (zr (some (1, 74))), some (zi v1), none, none], [zi v1, zr (some (1, 74))], h) (by decide +kernel) rfl ?_
  refine zG_callV (idx := 113) (R := (fun a => (some (zi a), h))) (as := [zi v1]) (rest := []) (n := 1) (fun a ha => c_Catalog_isLost hl ha) (by decide +kernel) ⟨ok_Catalog_isLost, by decide, by decide +kernel⟩ rfl w_143 w_144 w_145 (by decide) rfl rfl rfl (Nat.le_of_ble_eq_true rfl) fun x1 => ?_
  refine zG_if (op := .ne) (off := 5) (tgt := 10) (by decide +kernel) rfl Iff.rfl (fun c6 => ?_) (fun c6 => ?_)
  · refine zG_run t_Catalog [(.iload_n 1, 0, 0), (.iconst 2, 0, 0)] (12, [some (zr (some (1, 74))), some (zi v1), none, none], [zi 2, zi v1], h) (by decide +kernel) rfl ?_
    refine zG_iremc (by decide +kernel) (by decide) ?_
    refine zG_run t_Catalog [(.iconst 1, 0, 0)] (14, [some (zr (some (1, 74))), some (zi v1), none, none], [zi 1, zi (zrem v1 2)], h) (by decide +kernel) rfl ?_
    refine zG_icmp (op := .ne) (off := 10) (tgt := 24) (by decide +kernel) rfl Iff.rfl (fun c5 => ?_) (fun c5 => ?_)
    · refine zG_run t_Catalog [(.lconst 0, 0, 0)] (25, [some (zr (some (1, 74))), some (zi v1), none, none], [zl 0], h) (by decide +kernel) rfl ?_
      exact zG_forget (L' := [some (zr (some (1, 74))), some (zi v1), none, none]) (And.intro rfl (And.intro rfl trivial)) (k_Catalog_whyLost_j25 hl)
    · refine zG_run t_Catalog [(.aload_n 0, 0, 0)] (18, [some (zr (some (1, 74))), some (zi v1), none, none], [zr (some (1, 74))], h) (by decide +kernel) rfl ?_
      refine zG_callV (idx := 116) (R := (fun a => (some (zl a), h))) (as := []) (rest := []) (n := 0) (fun a ha => c_Catalog_allRows hl ha) (by decide +kernel) ⟨ok_Catalog_allRows, by decide, by decide +kernel⟩ rfl w_119 w_120 w_121 (by decide) rfl rfl rfl (Nat.le_of_ble_eq_true rfl) fun x4 => ?_
      refine zG_run t_Catalog [(.goto 4, 0, 0)] (25, [some (zr (some (1, 74))), some (zi v1), none, none], [zl x4], h) (by decide +kernel) rfl ?_
      exact zG_forget (L' := [some (zr (some (1, 74))), some (zi v1), none, none]) (And.intro rfl (And.intro rfl trivial)) (k_Catalog_whyLost_j25 hl)
  · refine zG_run t_Catalog [(.iconst 0, 0, 0)] (9, [some (zr (some (1, 74))), some (zi v1), none, none], [zi 0], h) (by decide +kernel) rfl ?_
    exact zG_ret (r := some (zi 0)) rfl (zrd_i rfl (by decide +kernel))
theorem c_Catalog_whyLost {l : Launch} {X : zX} (hl : l.stackTraces = false) {h : zH} {v1 : Int32} {x : Int32} (hx : f_Catalog_whyLost h v1 = some x) : zCt l (true, 2) 2 m_Catalog_whyLost X 0 0 [zr (some (1, 74)), zi v1] h ((fun a => (.inl (some (zi a)), h) : Int32 → zF) x) :=
  zG_ct (R := fun a => (.inl (some (zi a)), h)) (x := x) ok_Catalog_whyLost hl (Nat.le_of_ble_eq_true rfl) hx (k_Catalog_whyLost hl)
def m_Catalog_countOver : zM := (({ cls := "ScanPacker$Catalog", name := "countOver", desc := "(I)I" } : Jvm.MethodName), prog_2_method_16_code, 5, (Option.some Jvm.ClassFile.FieldType.int), [], 2)
theorem ok_Catalog_countOver : zMok m_Catalog_countOver := ⟨by decide +kernel, zW_of 1189 (by decide +kernel) (by decide +kernel), zW_of 126 (by decide +kernel) (by decide +kernel), by decide, by decide +kernel, by decide +kernel⟩
set_option maxRecDepth 20000 in
theorem k_Catalog_countOver_j49 {l : Launch} {X : zX} (hl : l.stackTraces = false) {h : zH} {v1 : Int32} {v2 : Int32} {v3 : Int32} {t0 : Int32} : zGl l m_Catalog_countOver X 0 0 (f_Catalog_countOver_j49 h v1 v2 v3 t0) (49, [some (zr (some (1, 74))), some (zi v1), some (zi v2), some (zi v3), none], [zi t0], h) (Sum.elim (fun s : Int32 × Int32 => .inl (14, [some (zr (some (1, 74))), some (zi v1), some (zi s.1), some (zi s.2), none], [], h)) (fun y : Int32 => .inl (81, [none, none, some (zi y), none, none], [], h))) := by
  unfold f_Catalog_countOver_j49
  refine zG_run t_Catalog [(.istore 4, 0, 0), (.iload 4, 0, 0)] (53, [some (zr (some (1, 74))), some (zi v1), some (zi v2), some (zi v3), some (zi t0)], [zi t0], h) (by decide +kernel) rfl ?_
  refine zG_if (op := .eq) (off := 22) (tgt := 75) (by decide +kernel) rfl Iff.rfl (fun c7 => ?_) (fun c7 => ?_)
  · refine zG_run t_Catalog [(.iinc 3 1, 0, 0), (.goto (-64), 0, 0)] (14, [some (zr (some (1, 74))), some (zi v1), some (zi v2), some (zi (v3 + 1)), some (zi t0)], [], h) (by decide +kernel) rfl ?_
    exact zG_end (L' := [some (zr (some (1, 74))), some (zi v1), some (zi v2), some (zi (v3 + 1)), none]) rfl (And.intro rfl (And.intro rfl (And.intro rfl (And.intro rfl trivial))))
  · refine zG_run t_Catalog [(.aload_n 0, 0, 0), (.getfield 16, 1, 5), (.iload_n 3, 0, 0)] (61, [some (zr (some (1, 74))), some (zi v1), some (zi v2), some (zi v3), some (zi t0)], [zi v3, zr (some (34, 121))], h) (by decide +kernel) rfl ?_
    refine zG_ald (v := zl (h.2.1 121 v3.toNatClampNeg)) (n := 44) rfl (by decide +kernel) rfl rfl fun hb4 => ?_
    refine zG_run t_Catalog [(.aload_n 0, 0, 0), (.getfield 16, 1, 5), (.iload_n 1, 0, 0)] (67, [some (zr (some (1, 74))), some (zi v1), some (zi v2), some (zi v3), some (zi t0)], [zi v1, zr (some (34, 121)), zl (h.2.1 121 v3.toNatClampNeg)], h) (by decide +kernel) rfl ?_
    refine zG_ald (v := zl (h.2.1 121 v1.toNatClampNeg)) (n := 44) rfl (by decide +kernel) rfl rfl fun hb5 => ?_
    refine zG_run t_Catalog [(.lcmp, 0, 0)] (69, [some (zr (some (1, 74))), some (zi v1), some (zi v2), some (zi v3), some (zi t0)], [zi (lg_cmp (h.2.1 121 v3.toNatClampNeg) (h.2.1 121 v1.toNatClampNeg))], h) (by decide +kernel) rfl ?_
    refine zG_if (op := .eq) (off := 6) (tgt := 75) (by decide +kernel) rfl zcmp0 (fun c6 => ?_) (fun c6 => ?_)
    · refine zG_run t_Catalog [(.iinc 3 1, 0, 0), (.goto (-64), 0, 0)] (14, [some (zr (some (1, 74))), some (zi v1), some (zi v2), some (zi (v3 + 1)), some (zi t0)], [], h) (by decide +kernel) rfl ?_
      exact zG_end (L' := [some (zr (some (1, 74))), some (zi v1), some (zi v2), some (zi (v3 + 1)), none]) rfl (And.intro rfl (And.intro rfl (And.intro rfl (And.intro rfl trivial))))
    · refine zG_run t_Catalog [(.iinc 2 1, 0, 0), (.iinc 3 1, 0, 0), (.goto (-64), 0, 0)] (14, [some (zr (some (1, 74))), some (zi v1), some (zi (v2 + 1)), some (zi (v3 + 1)), some (zi t0)], [], h) (by decide +kernel) rfl ?_
      exact zG_end (L' := [some (zr (some (1, 74))), some (zi v1), some (zi (v2 + 1)), some (zi (v3 + 1)), none]) rfl (And.intro rfl (And.intro rfl (And.intro rfl (And.intro rfl trivial))))
set_option maxRecDepth 20000 in
theorem k_Catalog_countOver_b14 {l : Launch} {X : zX} (hl : l.stackTraces = false) {h : zH} {v1 : Int32} {v2 : Int32} {v3 : Int32} : zGl l m_Catalog_countOver X 0 0 (f_Catalog_countOver_b14 h v1 v2 v3) (14, [some (zr (some (1, 74))), some (zi v1), some (zi v2), some (zi v3), none], [], h) (Sum.elim (fun s : Int32 × Int32 => .inl (14, [some (zr (some (1, 74))), some (zi v1), some (zi s.1), some (zi s.2), none], [], h)) (fun y : Int32 => .inl (81, [none, none, some (zi y), none, none], [], h))) := by
  unfold f_Catalog_countOver_b14
  refine zG_run t_Catalog [(.iload_n 3, 0, 0), (.aload_n 0, 0, 0), (.getfield 52, 1, 0)] (19, [some (zr (some (1, 74))), some (zi v1), some (zi v2), some (zi v3), none], [zi (h.1 74 0), zi v3], h) (by decide +kernel) rfl ?_
  refine zG_icmp (op := .ge) (off := 62) (tgt := 81) (by decide +kernel) rfl Iff.rfl (fun c9 => ?_) (fun c9 => ?_)
  · exact zG_end (L' := [none, none, some (zi v2), none, none]) rfl (And.intro rfl trivial)
  · refine zG_run t_Catalog [(.aload_n 0, 0, 0), (.getfield 16, 1, 5), (.iload_n 1, 0, 0)] (27, [some (zr (some (1, 74))), some (zi v1), some (zi v2), some (zi v3), none], [zi v1, zr (some (34, 121))], h) (by decide +kernel) rfl ?_
    refine zG_ald (v := zl (h.2.1 121 v1.toNatClampNeg)) (n := 44) rfl (by decide +kernel) rfl rfl fun hb2 => ?_
    refine zG_run t_Catalog [(.aload_n 0, 0, 0), (.getfield 16, 1, 5), (.iload_n 3, 0, 0)] (33, [some (zr (some (1, 74))), some (zi v1), some (zi v2), some (zi v3), none], [zi v3, zr (some (34, 121)), zl (h.2.1 121 v1.toNatClampNeg)], h) (by decide +kernel) rfl ?_
    refine zG_ald (v := zl (h.2.1 121 v3.toNatClampNeg)) (n := 44) rfl (by decide +kernel) rfl rfl fun hb3 => ?_
    refine zG_ldc2 (v := (-1)) (by decide +kernel) w_107 ?_
    refine zG_run t_Catalog [(.lxor, 0, 0), (.land, 0, 0), (.lconst 0, 0, 0), (.lcmp, 0, 0)] (41, [some (zr (some (1, 74))), some (zi v1), some (zi v2), some (zi v3), none], [zi (lg_cmp ((h.2.1 121 v1.toNatClampNeg) &&& ((h.2.1 121 v3.toNatClampNeg) ^^^ (-1))) 0)], h) (by decide +kernel) rfl ?_
    refine zG_if (op := .ne) (off := 7) (tgt := 48) (by decide +kernel) rfl (not_congr zcmp0) (fun c8 => ?_) (fun c8 => ?_)
    · refine zG_run t_Catalog [(.iconst 0, 0, 0)] (49, [some (zr (some (1, 74))), some (zi v1), some (zi v2), some (zi v3), none], [zi 0], h) (by decide +kernel) rfl ?_
      exact zG_forget (L' := [some (zr (some (1, 74))), some (zi v1), some (zi v2), some (zi v3), none]) (And.intro rfl (And.intro rfl (And.intro rfl (And.intro rfl trivial)))) (k_Catalog_countOver_j49 hl)
    · refine zG_run t_Catalog [(.iconst 1, 0, 0), (.goto 4, 0, 0)] (49, [some (zr (some (1, 74))), some (zi v1), some (zi v2), some (zi v3), none], [zi 1], h) (by decide +kernel) rfl ?_
      exact zG_forget (L' := [some (zr (some (1, 74))), some (zi v1), some (zi v2), some (zi v3), none]) (And.intro rfl (And.intro rfl (And.intro rfl (And.intro rfl trivial)))) (k_Catalog_countOver_j49 hl)
set_option maxRecDepth 20000 in
theorem k_Catalog_countOver {l : Launch} {X : zX} (hl : l.stackTraces = false) {h : zH} {v1 : Int32} : zGl l m_Catalog_countOver X 0 0 (f_Catalog_countOver h v1) (0, [some (zr (some (1, 74))), some (zi v1), none, none, none], [], h) (fun x => .inr ((fun a => (.inl (some (zi a)), h) : Int32 → zF) x)) := by
  unfold f_Catalog_countOver
  refine zG_run t_Catalog [(.aload_n 0, 0, 0), (.iload_n 1, 0, 0)] (2, [some (zr (some (1, 74))), some (zi v1), none, none, none], [zi v1, zr (some (1, 74))], h) (by decide +kernel) rfl ?_
  refine zG_callV (idx := 113) (R := (fun a => (some (zi a), h))) (as := [zi v1]) (rest := []) (n := 1) (fun a ha => c_Catalog_isLost hl ha) (by decide +kernel) ⟨ok_Catalog_isLost, by decide, by decide +kernel⟩ rfl w_143 w_144 w_145 (by decide) rfl rfl rfl (Nat.le_of_ble_eq_true rfl) fun x1 => ?_
  refine zG_if (op := .eq) (off := 5) (tgt := 10) (by decide +kernel) rfl Iff.rfl (fun c12 => ?_) (fun c12 => ?_)
  · refine zG_run t_Catalog [(.iconst 0, 0, 0), (.istore_n 2, 0, 0), (.iconst 0, 0, 0), (.istore_n 3, 0, 0)] (14, [some (zr (some (1, 74))), some (zi v1), some (zi 0), some (zi 0), none], [], h) (by decide +kernel) rfl ?_
    refine zG_forget (L' := [some (zr (some (1, 74))), some (zi v1), some (zi 0), some (zi 0), none]) (And.intro rfl (And.intro rfl (And.intro rfl (And.intro rfl trivial)))) ?_
    refine zG_bind (fun y : Int32 => (81, [none, none, some (zi y), none, none], [], h)) (zG_iter (fun s : Int32 × Int32 => (14, [some (zr (some (1, 74))), some (zi v1), some (zi s.1), some (zi s.2), none], [], h)) fun s => k_Catalog_countOver_b14 hl) (fun y11 => ?_)
    refine zG_run t_Catalog [(.iload_n 2, 0, 0)] (82, [none, none, some (zi y11), none, none], [zi y11], h) (by decide +kernel) rfl ?_
    exact zG_ret (r := some (zi y11)) rfl (zrd_i rfl (by decide +kernel))
  · refine zG_run t_Catalog [(.iconst 0, 0, 0)] (9, [some (zr (some (1, 74))), some (zi v1), none, none, none], [zi 0], h) (by decide +kernel) rfl ?_
    exact zG_ret (r := some (zi 0)) rfl (zrd_i rfl (by decide +kernel))
theorem c_Catalog_countOver {l : Launch} {X : zX} (hl : l.stackTraces = false) {h : zH} {v1 : Int32} {x : Int32} (hx : f_Catalog_countOver h v1 = some x) : zCt l (true, 2) 2 m_Catalog_countOver X 0 0 [zr (some (1, 74)), zi v1] h ((fun a => (.inl (some (zi a)), h) : Int32 → zF) x) :=
  zG_ct (R := fun a => (.inl (some (zi a)), h)) (x := x) ok_Catalog_countOver hl (Nat.le_of_ble_eq_true rfl) hx (k_Catalog_countOver hl)
def m_Main_test : zM := (({ cls := "ScanPacker", name := "test", desc := "(II)I" } : Jvm.MethodName), prog_1_method_9_code, 3, (Option.some Jvm.ClassFile.FieldType.int), [], 7)
theorem ok_Main_test : zMok m_Main_test := ⟨by decide +kernel, zW_of 1176 (by decide +kernel) (by decide +kernel), zW_of 122 (by decide +kernel) (by decide +kernel), by decide, by decide +kernel, by decide +kernel⟩
set_option maxRecDepth 20000 in
theorem k_Main_test {l : Launch} {X : zX} (hl : l.stackTraces = false) {h : zH} {v1 : Int32} {v2 : Int32} : zGl l m_Main_test X 2 12 (f_Main_test h v1 v2) (0, [some (zr (some (0, 0))), some (zi v1), some (zi v2)], [], h) (fun x => .inr ((Sum.elim (fun a => (.inl (some (zi a.1)), a.2)) (fun q => (.inr q.1, q.2)) : (Int32 × zH) ⊕ (Nat × zH) → zF) x)) := by
  unfold f_Main_test
  refine zG_run t_Main [(.aload_n 0, 0, 0), (.iload_n 1, 0, 0)] (2, [some (zr (some (0, 0))), some (zi v1), some (zi v2)], [zi v1, zr (some (0, 0))], h) (by decide +kernel) rfl ?_
  refine zG_mono (bc' := 1 + 1) (bs' := 6 + 6) (by decide) (by decide) ?_
  refine zG_callX (idx := 175) (R := (fun a => none)) (as := [zi v1]) (rest := []) (n := 1) (fun a h1 ha => c_Main_needFault hl ha) (fun k h1 ha => c_Main_needFault hl ha) (by decide +kernel) ⟨ok_Main_needFault, by decide, by decide +kernel⟩ rfl rfl w_236 w_237 w_238 (by decide) rfl rfl rfl (Nat.le_of_ble_eq_true rfl) (fun _ => rfl) fun x1 => ?_
  refine zG_run t_Main [(.iload_n 2, 0, 0)] (6, [some (zr (some (0, 0))), some (zi v1), some (zi v2)], [zi v2], x1.2) (by decide +kernel) rfl ?_
  refine zG_case (fun c4 => ?_) (fun c4 => ?_)
  · refine zG_tin (k := 0) (off := 38) (tgt := 44) (dflt := 122) (lo := 0) (hi := 5) (offs := #[38, 51, 60, 69, 78, 94]) (len := 38) c4 (by decide +kernel) (by decide +kernel) ?_
    refine zG_run t_Main [(.aload_n 0, 0, 0), (.getfield 30, 0, 3), (.getfield 178, 1, 5), (.iload_n 1, 0, 0)] (52, [some (zr (some (0, 0))), some (zi v1), some (zi v2)], [zi v1, zr (some (34, 121))], x1.2) (by decide +kernel) rfl ?_
    refine zG_ald (v := zl (x1.2.2.1 121 v1.toNatClampNeg)) (n := 44) rfl (by decide +kernel) rfl rfl fun hb2 => ?_
    refine zG_callS (idx := 182) (R := (fun a => (some (zi a), x1.2))) (as := [zl (x1.2.2.1 121 v1.toNatClampNeg)]) (rest := []) (n := 1) (fun a ha => c_Long_bitCount hl ha) (by decide +kernel) ⟨ok_Long_bitCount, by decide, by decide +kernel⟩ rfl w_181 w_182 rfl rfl (Nat.le_of_ble_eq_true rfl) fun x3 => ?_
    exact zG_ret (r := some (zi x3)) rfl (zrd_i rfl (by decide +kernel))
  · refine zG_case (fun c6 => ?_) (fun c6 => ?_)
    · refine zG_tin (k := 1) (off := 51) (tgt := 57) (dflt := 122) (lo := 0) (hi := 5) (offs := #[38, 51, 60, 69, 78, 94]) (len := 38) c6 (by decide +kernel) (by decide +kernel) ?_
      refine zG_run t_Main [(.aload_n 0, 0, 0), (.getfield 30, 0, 3), (.iload_n 1, 0, 0)] (62, [some (zr (some (0, 0))), some (zi v1), some (zi v2)], [zi v1, zr (some (1, 74))], x1.2) (by decide +kernel) rfl ?_
      refine zG_callV (idx := 188) (R := (fun a => (some (zi a), x1.2))) (as := [zi v1]) (rest := []) (n := 1) (fun a ha => c_Catalog_whyLost hl ha) (by decide +kernel) ⟨ok_Catalog_whyLost, by decide, by decide +kernel⟩ rfl w_239 w_240 w_241 (by decide) rfl rfl rfl (Nat.le_of_ble_eq_true rfl) fun x5 => ?_
      exact zG_ret (r := some (zi x5)) rfl (zrd_i rfl (by decide +kernel))
    · refine zG_case (fun c8 => ?_) (fun c8 => ?_)
      · refine zG_tin (k := 2) (off := 60) (tgt := 66) (dflt := 122) (lo := 0) (hi := 5) (offs := #[38, 51, 60, 69, 78, 94]) (len := 38) c8 (by decide +kernel) (by decide +kernel) ?_
        refine zG_run t_Main [(.aload_n 0, 0, 0), (.getfield 30, 0, 3), (.iload_n 1, 0, 0)] (71, [some (zr (some (0, 0))), some (zi v1), some (zi v2)], [zi v1, zr (some (1, 74))], x1.2) (by decide +kernel) rfl ?_
        refine zG_callV (idx := 191) (R := (fun a => (some (zi a), x1.2))) (as := [zi v1]) (rest := []) (n := 1) (fun a ha => c_Catalog_leastAlike hl ha) (by decide +kernel) ⟨ok_Catalog_leastAlike, by decide, by decide +kernel⟩ rfl w_242 w_212 w_213 (by decide) rfl rfl rfl (Nat.le_of_ble_eq_true rfl) fun x7 => ?_
        exact zG_ret (r := some (zi x7)) rfl (zrd_i rfl (by decide +kernel))
      · refine zG_case (fun c10 => ?_) (fun c10 => ?_)
        · refine zG_tin (k := 3) (off := 69) (tgt := 75) (dflt := 122) (lo := 0) (hi := 5) (offs := #[38, 51, 60, 69, 78, 94]) (len := 38) c10 (by decide +kernel) (by decide +kernel) ?_
          refine zG_run t_Main [(.aload_n 0, 0, 0), (.getfield 30, 0, 3), (.iload_n 1, 0, 0)] (80, [some (zr (some (0, 0))), some (zi v1), some (zi v2)], [zi v1, zr (some (1, 74))], x1.2) (by decide +kernel) rfl ?_
          refine zG_callV (idx := 194) (R := (fun a => (some (zi a), x1.2))) (as := [zi v1]) (rest := []) (n := 1) (fun a ha => c_Catalog_countOver hl ha) (by decide +kernel) ⟨ok_Catalog_countOver, by decide, by decide +kernel⟩ rfl w_243 w_244 w_245 (by decide) rfl rfl rfl (Nat.le_of_ble_eq_true rfl) fun x9 => ?_
          exact zG_ret (r := some (zi x9)) rfl (zrd_i rfl (by decide +kernel))
        · refine zG_case (fun c11 => ?_) (fun c11 => ?_)
          · refine zG_tin (k := 4) (off := 78) (tgt := 84) (dflt := 122) (lo := 0) (hi := 5) (offs := #[38, 51, 60, 69, 78, 94]) (len := 38) c11 (by decide +kernel) (by decide +kernel) ?_
            refine zG_run t_Main [(.aload_n 0, 0, 0), (.getfield 58, 0, 7), (.getfield 139, 7, 0), (.getfield 197, 8, 4), (.iload_n 1, 0, 0), (.lushr, 0, 0), (.l2i, 0, 0), (.iconst 1, 0, 0), (.iand, 0, 0)] (99, [some (zr (some (0, 0))), some (zi v1), some (zi v2)], [zi ((zlushr (x1.2.2.1 156 4) v1).toInt32 &&& 1)], x1.2) (by decide +kernel) rfl ?_
            exact zG_ret (r := some (zi ((zlushr (x1.2.2.1 156 4) v1).toInt32 &&& 1))) rfl (zrd_i rfl (by decide +kernel))
          · refine zG_case (fun c16 => ?_) (fun c16 => ?_)
            · refine zG_tin (k := 5) (off := 94) (tgt := 100) (dflt := 122) (lo := 0) (hi := 5) (offs := #[38, 51, 60, 69, 78, 94]) (len := 38) c16 (by decide +kernel) (by decide +kernel) ?_
              refine zG_run t_Main [(.aload_n 0, 0, 0), (.getfield 30, 0, 3), (.iload_n 1, 0, 0)] (105, [some (zr (some (0, 0))), some (zi v1), some (zi v2)], [zi v1, zr (some (1, 74))], x1.2) (by decide +kernel) rfl ?_
              refine zG_callV (idx := 201) (R := (fun a => (some (zi a), x1.2))) (as := [zi v1]) (rest := []) (n := 1) (fun a ha => c_Catalog_isLost hl ha) (by decide +kernel) ⟨ok_Catalog_isLost, by decide, by decide +kernel⟩ rfl w_246 w_144 w_145 (by decide) rfl rfl rfl (Nat.le_of_ble_eq_true rfl) fun x12 => ?_
              refine zG_if (op := .eq) (off := 7) (tgt := 115) (by decide +kernel) rfl Iff.rfl (fun c15 => ?_) (fun c15 => ?_)
              · refine zG_run t_Main [(.aload_n 0, 0, 0), (.getfield 30, 0, 3), (.getfield 204, 1, 6), (.iload_n 1, 0, 0)] (123, [some (zr (some (0, 0))), some (zi v1), some (zi v2)], [zi v1, zr (some (35, 122))], x1.2) (by decide +kernel) rfl ?_
                refine zG_ald (v := zi (x1.2.1 122 v1.toNatClampNeg)) (n := 44) rfl (by decide +kernel) rfl rfl fun hb13 => ?_
                refine zG_callS (idx := 207) (R := (fun a => (some (zi a), x1.2))) (as := [zi (x1.2.1 122 v1.toNatClampNeg)]) (rest := []) (n := 1) (fun a ha => c_Integer_bitCount hl ha) (by decide +kernel) ⟨ok_Integer_bitCount, by decide, by decide +kernel⟩ rfl w_210 w_154 rfl rfl (Nat.le_of_ble_eq_true rfl) fun x14 => ?_
                exact zG_ret (r := some (zi x14)) rfl (zrd_i rfl (by decide +kernel))
              · refine zG_run t_Main [(.iconst (-1), 0, 0), (.goto 15, 0, 0)] (127, [some (zr (some (0, 0))), some (zi v1), some (zi v2)], [zi (-1)], x1.2) (by decide +kernel) rfl ?_
                exact zG_ret (r := some (zi (-1))) rfl (zrd_i rfl (by decide +kernel))
            · have e0 : Int32.toInt v2 ≠ 0 := zne (k := 0) c4
              have e1 : Int32.toInt v2 ≠ 1 := zne (k := 1) c6
              have e2 : Int32.toInt v2 ≠ 2 := zne (k := 2) c8
              have e3 : Int32.toInt v2 ≠ 3 := zne (k := 3) c10
              have e4 : Int32.toInt v2 ≠ 4 := zne (k := 4) c11
              have e5 : Int32.toInt v2 ≠ 5 := zne (k := 5) c16
              refine zG_tout (tgt := 128) (dflt := 122) (lo := 0) (hi := 5) (offs := #[38, 51, 60, 69, 78, 94]) (len := 38) (by omega) (by decide +kernel) rfl ?_
              refine zG_mono (bc' := 0 + 1) (bs' := 0 + 6) (by decide) (by decide) ?_
              exact zG_throw (k := 1) (ik := 109) (ic := 111) rfl (Or.inl rfl) (by decide +kernel) (by decide +kernel) (by decide +kernel) (by decide +kernel) w_176 w_177 (by decide +kernel) (by decide +kernel) (Nat.le_of_ble_eq_true rfl) (by decide) rfl
theorem c_Main_test {l : Launch} {X : zX} (hl : l.stackTraces = false) {h : zH} {v1 : Int32} {v2 : Int32} {x : (Int32 × zH) ⊕ (Nat × zH)} (hx : f_Main_test h v1 v2 = some x) : zCt l (true, 2) 2 m_Main_test X 2 12 [zr (some (0, 0)), zi v1, zi v2] h ((Sum.elim (fun a => (.inl (some (zi a.1)), a.2)) (fun q => (.inr q.1, q.2)) : (Int32 × zH) ⊕ (Nat × zH) → zF) x) :=
  zG_ct (R := Sum.elim (fun a => (.inl (some (zi a.1)), a.2)) (fun q => (.inr q.1, q.2))) (x := x) ok_Main_test hl (Nat.le_of_ble_eq_true rfl) hx (k_Main_test hl)
def m_Catalog_testAt : zM := (({ cls := "ScanPacker$Catalog", name := "testAt", desc := "(II)I" } : Jvm.MethodName), prog_2_method_13_code, 5, (Option.some Jvm.ClassFile.FieldType.int), [], 1)
theorem ok_Catalog_testAt : zMok m_Catalog_testAt := ⟨by decide +kernel, zW_of 1200 (by decide +kernel) (by decide +kernel), zW_of 126 (by decide +kernel) (by decide +kernel), by decide, by decide +kernel, by decide +kernel⟩
set_option maxRecDepth 20000 in
theorem k_Catalog_testAt_b5 {l : Launch} {X : zX} (hl : l.stackTraces = false) {h : zH} {v1 : Int32} {v3 : Int32} {v4 : Int32} : zGl l m_Catalog_testAt X 0 0 (f_Catalog_testAt_b5 h v1 v3 v4) (5, [some (zr (some (1, 74))), some (zi v1), none, some (zi v3), some (zi v4)], [], h) (Sum.elim (fun s : Int32 × Int32 => .inl (5, [some (zr (some (1, 74))), some (zi v1), none, some (zi s.1), some (zi s.2)], [], h)) (Sum.elim (fun y : Int32 => .inl (34, [none, none, none, none, some (zi y)], [], h)) (fun y : Unit => .inl (46, [none, none, none, none, none], [], h)))) := by
  unfold f_Catalog_testAt_b5
  refine zG_run t_Catalog [(.iload 4, 0, 0), (.aload_n 0, 0, 0), (.getfield 59, 1, 1)] (11, [some (zr (some (1, 74))), some (zi v1), none, some (zi v3), some (zi v4)], [zi (h.1 74 1), zi v4], h) (by decide +kernel) rfl ?_
  refine zG_icmp (op := .ge) (off := 35) (tgt := 46) (by decide +kernel) rfl Iff.rfl (fun c4 => ?_) (fun c4 => ?_)
  · exact zG_end (L' := [none, none, none, none, none]) rfl (trivial)
  · refine zG_run t_Catalog [(.aload_n 0, 0, 0), (.getfield 16, 1, 5), (.iload_n 1, 0, 0)] (19, [some (zr (some (1, 74))), some (zi v1), none, some (zi v3), some (zi v4)], [zi v1, zr (some (34, 121))], h) (by decide +kernel) rfl ?_
    refine zG_ald (v := zl (h.2.1 121 v1.toNatClampNeg)) (n := 44) rfl (by decide +kernel) rfl rfl fun hb1 => ?_
    refine zG_run t_Catalog [(.iload 4, 0, 0), (.lushr, 0, 0), (.lconst 1, 0, 0), (.land, 0, 0), (.lconst 1, 0, 0), (.lcmp, 0, 0)] (27, [some (zr (some (1, 74))), some (zi v1), none, some (zi v3), some (zi v4)], [zi (lg_cmp ((zlushr (h.2.1 121 v1.toNatClampNeg) v4) &&& 1) 1)], h) (by decide +kernel) rfl ?_
    refine zG_if (op := .ne) (off := 13) (tgt := 40) (by decide +kernel) rfl (not_congr zcmp0) (fun c3 => ?_) (fun c3 => ?_)
    · refine zG_run t_Catalog [(.iinc 4 1, 0, 0), (.goto (-38), 0, 0)] (5, [some (zr (some (1, 74))), some (zi v1), none, some (zi v3), some (zi (v4 + 1))], [], h) (by decide +kernel) rfl ?_
      exact zG_end (L' := [some (zr (some (1, 74))), some (zi v1), none, some (zi v3), some (zi (v4 + 1))]) rfl (And.intro rfl (And.intro rfl (And.intro rfl (And.intro rfl trivial))))
    · refine zG_run t_Catalog [(.iload_n 3, 0, 0)] (31, [some (zr (some (1, 74))), some (zi v1), none, some (zi v3), some (zi v4)], [zi v3], h) (by decide +kernel) rfl ?_
      refine zG_if (op := .ne) (off := 6) (tgt := 37) (by decide +kernel) rfl Iff.rfl (fun c2 => ?_) (fun c2 => ?_)
      · refine zG_run t_Catalog [(.iinc 3 (-1), 0, 0), (.iinc 4 1, 0, 0), (.goto (-38), 0, 0)] (5, [some (zr (some (1, 74))), some (zi v1), none, some (zi (v3 + (-1))), some (zi (v4 + 1))], [], h) (by decide +kernel) rfl ?_
        exact zG_end (L' := [some (zr (some (1, 74))), some (zi v1), none, some (zi (v3 + (-1))), some (zi (v4 + 1))]) rfl (And.intro rfl (And.intro rfl (And.intro rfl (And.intro rfl trivial))))
      · exact zG_end (L' := [none, none, none, none, some (zi v4)]) rfl (And.intro rfl trivial)
set_option maxRecDepth 20000 in
theorem k_Catalog_testAt {l : Launch} {X : zX} (hl : l.stackTraces = false) {h : zH} {v1 : Int32} {v2 : Int32} : zGl l m_Catalog_testAt X 0 0 (f_Catalog_testAt h v1 v2) (0, [some (zr (some (1, 74))), some (zi v1), some (zi v2), none, none], [], h) (fun x => .inr ((fun a => (.inl (some (zi a)), h) : Int32 → zF) x)) := by
  unfold f_Catalog_testAt
  refine zG_run t_Catalog [(.iload_n 2, 0, 0), (.istore_n 3, 0, 0), (.iconst 0, 0, 0), (.istore 4, 0, 0)] (5, [some (zr (some (1, 74))), some (zi v1), some (zi v2), some (zi v2), some (zi 0)], [], h) (by decide +kernel) rfl ?_
  refine zG_forget (L' := [some (zr (some (1, 74))), some (zi v1), none, some (zi v2), some (zi 0)]) (And.intro rfl (And.intro rfl (And.intro rfl (And.intro rfl trivial)))) ?_
  refine zG_bind2 (fun y : Int32 => (34, [none, none, none, none, some (zi y)], [], h)) (fun y : Unit => (46, [none, none, none, none, none], [], h)) (zG_iter (fun s : Int32 × Int32 => (5, [some (zr (some (1, 74))), some (zi v1), none, some (zi s.1), some (zi s.2)], [], h)) fun s => k_Catalog_testAt_b5 hl) (fun y6 => ?_) (fun y7 => ?_)
  · refine zG_run t_Catalog [(.iload 4, 0, 0)] (36, [none, none, none, none, some (zi y6)], [zi y6], h) (by decide +kernel) rfl ?_
    exact zG_ret (r := some (zi y6)) rfl (zrd_i rfl (by decide +kernel))
  · refine zG_run t_Catalog [(.iconst (-1), 0, 0)] (47, [none, none, none, none, none], [zi (-1)], h) (by decide +kernel) rfl ?_
    exact zG_ret (r := some (zi (-1))) rfl (zrd_i rfl (by decide +kernel))
theorem c_Catalog_testAt {l : Launch} {X : zX} (hl : l.stackTraces = false) {h : zH} {v1 : Int32} {v2 : Int32} {x : Int32} (hx : f_Catalog_testAt h v1 v2 = some x) : zCt l (true, 2) 2 m_Catalog_testAt X 0 0 [zr (some (1, 74)), zi v1, zi v2] h ((fun a => (.inl (some (zi a)), h) : Int32 → zF) x) :=
  zG_ct (R := fun a => (.inl (some (zi a)), h)) (x := x) ok_Catalog_testAt hl (Nat.le_of_ble_eq_true rfl) hx (k_Catalog_testAt hl)
def m_Main_row : zM := (({ cls := "ScanPacker", name := "row", desc := "(II)I" } : Jvm.MethodName), prog_1_method_10_code, 3, (Option.some Jvm.ClassFile.FieldType.int), [], 7)
theorem ok_Main_row : zMok m_Main_row := ⟨by decide +kernel, zW_of 1196 (by decide +kernel) (by decide +kernel), zW_of 122 (by decide +kernel) (by decide +kernel), by decide, by decide +kernel, by decide +kernel⟩
set_option maxRecDepth 20000 in
theorem k_Main_row_j25 {l : Launch} {X : zX} (hl : l.stackTraces = false) {h : zH} : zGl l m_Main_row X 1 6 (f_Main_row_j25 h) (25, [none, none, none], [], h) (fun x => .inr ((Sum.elim (fun a => (.inl (some (zi a.1)), a.2)) (fun q => (.inr q.1, q.2)) : (Int32 × zH) ⊕ (Nat × zH) → zF) x)) := by
  unfold f_Main_row_j25
  refine zG_mono (bc' := 0 + 1) (bs' := 0 + 6) (by decide) (by decide) ?_
  exact zG_throw (k := 1) (ik := 109) (ic := 111) rfl (Or.inl rfl) (by decide +kernel) (by decide +kernel) (by decide +kernel) (by decide +kernel) w_176 w_177 (by decide +kernel) (by decide +kernel) (Nat.le_of_ble_eq_true rfl) (by decide) rfl
set_option maxRecDepth 20000 in
theorem k_Main_row {l : Launch} {X : zX} (hl : l.stackTraces = false) {h : zH} {v1 : Int32} {v2 : Int32} : zGl l m_Main_row X 2 12 (f_Main_row h v1 v2) (0, [some (zr (some (0, 0))), some (zi v1), some (zi v2)], [], h) (fun x => .inr ((Sum.elim (fun a => (.inl (some (zi a.1)), a.2)) (fun q => (.inr q.1, q.2)) : (Int32 × zH) ⊕ (Nat × zH) → zF) x)) := by
  unfold f_Main_row
  refine zG_run t_Main [(.aload_n 0, 0, 0), (.iload_n 1, 0, 0)] (2, [some (zr (some (0, 0))), some (zi v1), some (zi v2)], [zi v1, zr (some (0, 0))], h) (by decide +kernel) rfl ?_
  refine zG_mono (bc' := 1 + 1) (bs' := 6 + 6) (by decide) (by decide) ?_
  refine zG_callX (idx := 175) (R := (fun a => none)) (as := [zi v1]) (rest := []) (n := 1) (fun a h1 ha => c_Main_needFault hl ha) (fun k h1 ha => c_Main_needFault hl ha) (by decide +kernel) ⟨ok_Main_needFault, by decide, by decide +kernel⟩ rfl rfl w_236 w_237 w_238 (by decide) rfl rfl rfl (Nat.le_of_ble_eq_true rfl) (fun _ => rfl) fun x1 => ?_
  refine zG_run t_Main [(.iload_n 2, 0, 0)] (6, [some (zr (some (0, 0))), some (zi v1), some (zi v2)], [zi v2], x1.2) (by decide +kernel) rfl ?_
  refine zG_if (op := .lt) (off := 19) (tgt := 25) (by decide +kernel) rfl Iff.rfl (fun c6 => ?_) (fun c6 => ?_)
  · refine zG_mono (bc' := 1) (bs' := 6) (by decide) (by decide) ?_
    exact zG_forget (L' := [none, none, none]) (trivial) (k_Main_row_j25 hl)
  · refine zG_run t_Main [(.iload_n 2, 0, 0), (.aload_n 0, 0, 0), (.getfield 30, 0, 3), (.getfield 178, 1, 5), (.iload_n 1, 0, 0)] (18, [some (zr (some (0, 0))), some (zi v1), some (zi v2)], [zi v1, zr (some (34, 121)), zi v2], x1.2) (by decide +kernel) rfl ?_
    refine zG_ald (v := zl (x1.2.2.1 121 v1.toNatClampNeg)) (n := 44) rfl (by decide +kernel) rfl rfl fun hb2 => ?_
    refine zG_callS (idx := 182) (R := (fun a => (some (zi a), x1.2))) (as := [zl (x1.2.2.1 121 v1.toNatClampNeg)]) (rest := [zi v2]) (n := 1) (fun a ha => c_Long_bitCount hl ha) (by decide +kernel) ⟨ok_Long_bitCount, by decide, by decide +kernel⟩ rfl w_181 w_182 rfl rfl (Nat.le_of_ble_eq_true rfl) fun x3 => ?_
    refine zG_icmp (op := .lt) (off := 11) (tgt := 33) (by decide +kernel) rfl Iff.rfl (fun c5 => ?_) (fun c5 => ?_)
    · refine zG_run t_Main [(.aload_n 0, 0, 0), (.getfield 30, 0, 3), (.iload_n 1, 0, 0), (.iload_n 2, 0, 0)] (39, [some (zr (some (0, 0))), some (zi v1), some (zi v2)], [zi v2, zi v1, zr (some (1, 74))], x1.2) (by decide +kernel) rfl ?_
      refine zG_callV (idx := 211) (R := (fun a => (some (zi a), x1.2))) (as := [zi v1, zi v2]) (rest := []) (n := 2) (fun a ha => c_Catalog_testAt hl ha) (by decide +kernel) ⟨ok_Catalog_testAt, by decide, by decide +kernel⟩ rfl w_247 w_248 w_249 (by decide) rfl rfl rfl (Nat.le_of_ble_eq_true rfl) fun x4 => ?_
      exact zG_ret (r := some (zi x4)) rfl (zrd_i rfl (by decide +kernel))
    · refine zG_mono (bc' := 1) (bs' := 6) (by decide) (by decide) ?_
      exact zG_forget (L' := [none, none, none]) (trivial) (k_Main_row_j25 hl)
theorem c_Main_row {l : Launch} {X : zX} (hl : l.stackTraces = false) {h : zH} {v1 : Int32} {v2 : Int32} {x : (Int32 × zH) ⊕ (Nat × zH)} (hx : f_Main_row h v1 v2 = some x) : zCt l (true, 2) 2 m_Main_row X 2 12 [zr (some (0, 0)), zi v1, zi v2] h ((Sum.elim (fun a => (.inl (some (zi a.1)), a.2)) (fun q => (.inr q.1, q.2)) : (Int32 × zH) ⊕ (Nat × zH) → zF) x) :=
  zG_ct (R := Sum.elim (fun a => (.inl (some (zi a.1)), a.2)) (fun q => (.inr q.1, q.2))) (x := x) ok_Main_row hl (Nat.le_of_ble_eq_true rfl) hx (k_Main_row hl)
def m_Main_cube : zM := (({ cls := "ScanPacker", name := "cube", desc := "(II)I" } : Jvm.MethodName), prog_1_method_11_code, 3, (Option.some Jvm.ClassFile.FieldType.int), [], 7)
theorem ok_Main_cube : zMok m_Main_cube := ⟨by decide +kernel, zW_of 1207 (by decide +kernel) (by decide +kernel), zW_of 122 (by decide +kernel) (by decide +kernel), by decide, by decide +kernel, by decide +kernel⟩
set_option maxRecDepth 20000 in
theorem k_Main_cube_j31 {l : Launch} {X : zX} (hl : l.stackTraces = false) {h : zH} : zGl l m_Main_cube X 1 6 (f_Main_cube_j31 h) (31, [none, none, none], [], h) (fun x => .inr ((Sum.elim (fun a => (.inl (some (zi a.1)), a.2)) (fun q => (.inr q.1, q.2)) : (Int32 × zH) ⊕ (Nat × zH) → zF) x)) := by
  unfold f_Main_cube_j31
  refine zG_mono (bc' := 0 + 1) (bs' := 0 + 6) (by decide) (by decide) ?_
  exact zG_throw (k := 1) (ik := 109) (ic := 111) rfl (Or.inl rfl) (by decide +kernel) (by decide +kernel) (by decide +kernel) (by decide +kernel) w_176 w_177 (by decide +kernel) (by decide +kernel) (Nat.le_of_ble_eq_true rfl) (by decide) rfl
set_option maxRecDepth 20000 in
theorem k_Main_cube {l : Launch} {X : zX} (hl : l.stackTraces = false) {h : zH} {v1 : Int32} {v2 : Int32} : zGl l m_Main_cube X 2 12 (f_Main_cube h v1 v2) (0, [some (zr (some (0, 0))), some (zi v1), some (zi v2)], [], h) (fun x => .inr ((Sum.elim (fun a => (.inl (some (zi a.1)), a.2)) (fun q => (.inr q.1, q.2)) : (Int32 × zH) ⊕ (Nat × zH) → zF) x)) := by
  unfold f_Main_cube
  refine zG_run t_Main [(.aload_n 0, 0, 0), (.iload_n 1, 0, 0)] (2, [some (zr (some (0, 0))), some (zi v1), some (zi v2)], [zi v1, zr (some (0, 0))], h) (by decide +kernel) rfl ?_
  refine zG_mono (bc' := 1 + 1) (bs' := 6 + 6) (by decide) (by decide) ?_
  refine zG_callX (idx := 175) (R := (fun a => none)) (as := [zi v1]) (rest := []) (n := 1) (fun a h1 ha => c_Main_needFault hl ha) (fun k h1 ha => c_Main_needFault hl ha) (by decide +kernel) ⟨ok_Main_needFault, by decide, by decide +kernel⟩ rfl rfl w_236 w_237 w_238 (by decide) rfl rfl rfl (Nat.le_of_ble_eq_true rfl) (fun _ => rfl) fun x1 => ?_
  refine zG_run t_Main [(.aload_n 0, 0, 0), (.getfield 30, 0, 3), (.iload_n 1, 0, 0)] (10, [some (zr (some (0, 0))), some (zi v1), some (zi v2)], [zi v1, zr (some (1, 74))], x1.2) (by decide +kernel) rfl ?_
  refine zG_callV (idx := 201) (R := (fun a => (some (zi a), x1.2))) (as := [zi v1]) (rest := []) (n := 1) (fun a ha => c_Catalog_isLost hl ha) (by decide +kernel) ⟨ok_Catalog_isLost, by decide, by decide +kernel⟩ rfl w_246 w_144 w_145 (by decide) rfl rfl rfl (Nat.le_of_ble_eq_true rfl) fun x2 => ?_
  refine zG_if (op := .ne) (off := 18) (tgt := 31) (by decide +kernel) rfl Iff.rfl (fun c9 => ?_) (fun c9 => ?_)
  · refine zG_mono (bc' := 1) (bs' := 6) (by decide) (by decide) ?_
    exact zG_forget (L' := [none, none, none]) (trivial) (k_Main_cube_j31 hl)
  · refine zG_run t_Main [(.iload_n 2, 0, 0)] (17, [some (zr (some (0, 0))), some (zi v1), some (zi v2)], [zi v2], x1.2) (by decide +kernel) rfl ?_
    refine zG_if (op := .lt) (off := 14) (tgt := 31) (by decide +kernel) rfl Iff.rfl (fun c8 => ?_) (fun c8 => ?_)
    · refine zG_mono (bc' := 1) (bs' := 6) (by decide) (by decide) ?_
      exact zG_forget (L' := [none, none, none]) (trivial) (k_Main_cube_j31 hl)
    · refine zG_run t_Main [(.iload_n 2, 0, 0), (.aload_n 0, 0, 0), (.getfield 19, 0, 1)] (25, [some (zr (some (0, 0))), some (zi v1), some (zi v2)], [zr (x1.2.2.2.1 0 1), zi v2], x1.2) (by decide +kernel) rfl ?_
      refine zG_dyn fun w3 _ => ?_
      refine zG_run t_Main [(.getfield 152, 3, 0)] (28, [some (zr (some (0, 0))), some (zi v1), some (zi v2)], [zi (x1.2.1 w3 0), zi v2], x1.2) (by decide +kernel) rfl ?_
      refine zG_icmp (op := .lt) (off := 11) (tgt := 39) (by decide +kernel) rfl Iff.rfl (fun c7 => ?_) (fun c7 => ?_)
      · refine zG_run t_Main [(.aload_n 0, 0, 0), (.getfield 30, 0, 3), (.getfield 204, 1, 6), (.iload_n 1, 0, 0)] (47, [some (zr (some (0, 0))), some (zi v1), some (zi v2)], [zi v1, zr (some (35, 122))], x1.2) (by decide +kernel) rfl ?_
        refine zG_ald (v := zi (x1.2.1 122 v1.toNatClampNeg)) (n := 44) rfl (by decide +kernel) rfl rfl fun hb4 => ?_
        refine zG_run t_Main [(.iload_n 2, 0, 0), (.iushr, 0, 0), (.iconst 1, 0, 0), (.iand, 0, 0)] (52, [some (zr (some (0, 0))), some (zi v1), some (zi v2)], [zi ((zushr (x1.2.1 122 v1.toNatClampNeg) v2) &&& 1)], x1.2) (by decide +kernel) rfl ?_
        refine zG_if (op := .ne) (off := 5) (tgt := 57) (by decide +kernel) rfl Iff.rfl (fun c6 => ?_) (fun c6 => ?_)
        · refine zG_run t_Main [(.aload_n 0, 0, 0), (.getfield 30, 0, 3), (.getfield 215, 1, 7), (.iload_n 1, 0, 0)] (65, [some (zr (some (0, 0))), some (zi v1), some (zi v2)], [zi v1, zr (some (36, 123))], x1.2) (by decide +kernel) rfl ?_
          refine zG_ald (v := zi (x1.2.1 123 v1.toNatClampNeg)) (n := 44) rfl (by decide +kernel) rfl rfl fun hb5 => ?_
          refine zG_run t_Main [(.iload_n 2, 0, 0), (.iushr, 0, 0), (.iconst 1, 0, 0), (.iand, 0, 0)] (70, [some (zr (some (0, 0))), some (zi v1), some (zi v2)], [zi ((zushr (x1.2.1 123 v1.toNatClampNeg) v2) &&& 1)], x1.2) (by decide +kernel) rfl ?_
          exact zG_ret (r := some (zi ((zushr (x1.2.1 123 v1.toNatClampNeg) v2) &&& 1))) rfl (zrd_i rfl (by decide +kernel))
        · refine zG_run t_Main [(.iconst 2, 0, 0)] (56, [some (zr (some (0, 0))), some (zi v1), some (zi v2)], [zi 2], x1.2) (by decide +kernel) rfl ?_
          exact zG_ret (r := some (zi 2)) rfl (zrd_i rfl (by decide +kernel))
      · refine zG_mono (bc' := 1) (bs' := 6) (by decide) (by decide) ?_
        exact zG_forget (L' := [none, none, none]) (trivial) (k_Main_cube_j31 hl)
theorem c_Main_cube {l : Launch} {X : zX} (hl : l.stackTraces = false) {h : zH} {v1 : Int32} {v2 : Int32} {x : (Int32 × zH) ⊕ (Nat × zH)} (hx : f_Main_cube h v1 v2 = some x) : zCt l (true, 2) 2 m_Main_cube X 2 12 [zr (some (0, 0)), zi v1, zi v2] h ((Sum.elim (fun a => (.inl (some (zi a.1)), a.2)) (fun q => (.inr q.1, q.2)) : (Int32 × zH) ⊕ (Nat × zH) → zF) x) :=
  zG_ct (R := Sum.elim (fun a => (.inl (some (zi a.1)), a.2)) (fun q => (.inr q.1, q.2))) (x := x) ok_Main_cube hl (Nat.le_of_ble_eq_true rfl) hx (k_Main_cube hl)
def m_Catalog_tellUnset : zM := (({ cls := "ScanPacker$Catalog", name := "tellUnset", desc := "(LScanPacker$Net;III)I" } : Jvm.MethodName), prog_2_method_8_code, 7, (Option.some Jvm.ClassFile.FieldType.int), [], 3)
theorem ok_Catalog_tellUnset : zMok m_Catalog_tellUnset := ⟨by decide +kernel, zW_of 1218 (by decide +kernel) (by decide +kernel), zW_of 126 (by decide +kernel) (by decide +kernel), by decide, by decide +kernel, by decide +kernel⟩
set_option maxRecDepth 20000 in
theorem k_Catalog_tellUnset_j53 {l : Launch} {X : zX} (hl : l.stackTraces = false) {o1 : Nat} {h : zH} {v3 : Int32} {v4 : Int32} {v5 : Int32} {v6 : Int32} {t0 : Int64} {t1 : Int64} {t2 : Int32} : zGl l m_Catalog_tellUnset X 0 0 (f_Catalog_tellUnset_j53 o1 h v3 v4 v5 v6 t0 t1 t2) (53, [some (zr (some (1, 74))), some (zr (some (3, o1))), none, some (zi v3), some (zi v4), some (zi v5), some (zi v6)], [zl t0, zl t1, zi t2, zr (some (10, 132))], h) (Sum.elim (fun s : Int32 × Int32 × zH => .inl (13, [some (zr (some (1, 74))), some (zr (some (3, o1))), none, some (zi v3), some (zi v4), some (zi s.1), some (zi s.2.1)], [], s.2.2)) (fun y : zH => .inl (68, [some (zr (some (1, 74))), some (zr (some (3, o1))), none, some (zi v3), some (zi v4), none, none], [], y))) := by
  unfold f_Catalog_tellUnset_j53
  refine zG_callV (idx := 85) (R := (fun a => (none, a))) (as := [zi t2, zl t1, zl t0]) (rest := []) (n := 3) (fun a ha => c_Waves_setInput hl ha) (by decide +kernel) ⟨ok_Waves_setInput, by decide, by decide +kernel⟩ rfl w_108 w_109 w_110 (by decide) rfl rfl rfl (Nat.le_of_ble_eq_true rfl) fun x2 => ?_
  refine zG_run t_Catalog [(.iload 5, 0, 0), (.iconst 3, 0, 0)] (59, [some (zr (some (1, 74))), some (zr (some (3, o1))), none, some (zi v3), some (zi v4), some (zi v5), some (zi v6)], [zi 3, zi v5], x2) (by decide +kernel) rfl ?_
  refine zG_idivc (by decide +kernel) (by decide) ?_
  refine zG_run t_Catalog [(.istore 5, 0, 0), (.iinc 6 1, 0, 0), (.goto (-52), 0, 0)] (13, [some (zr (some (1, 74))), some (zr (some (3, o1))), none, some (zi v3), some (zi v4), some (zi (v5 / 3)), some (zi (v6 + 1))], [], x2) (by decide +kernel) rfl ?_
  exact zG_end (L' := [some (zr (some (1, 74))), some (zr (some (3, o1))), none, some (zi v3), some (zi v4), some (zi (v5 / 3)), some (zi (v6 + 1))]) rfl (And.intro rfl (And.intro rfl (And.intro rfl (And.intro rfl (And.intro rfl (And.intro rfl trivial))))))
set_option maxRecDepth 20000 in
theorem k_Catalog_tellUnset_j41 {l : Launch} {X : zX} (hl : l.stackTraces = false) {o1 : Nat} {h : zH} {v3 : Int32} {v4 : Int32} {v5 : Int32} {v6 : Int32} {t0 : Int64} {t1 : Int32} : zGl l m_Catalog_tellUnset X 0 0 (f_Catalog_tellUnset_j41 o1 h v3 v4 v5 v6 t0 t1) (41, [some (zr (some (1, 74))), some (zr (some (3, o1))), none, some (zi v3), some (zi v4), some (zi v5), some (zi v6)], [zl t0, zi t1, zr (some (10, 132))], h) (Sum.elim (fun s : Int32 × Int32 × zH => .inl (13, [some (zr (some (1, 74))), some (zr (some (3, o1))), none, some (zi v3), some (zi v4), some (zi s.1), some (zi s.2.1)], [], s.2.2)) (fun y : zH => .inl (68, [some (zr (some (1, 74))), some (zr (some (3, o1))), none, some (zi v3), some (zi v4), none, none], [], y))) := by
  unfold f_Catalog_tellUnset_j41
  refine zG_run t_Catalog [(.iload 5, 0, 0), (.iconst 3, 0, 0)] (44, [some (zr (some (1, 74))), some (zr (some (3, o1))), none, some (zi v3), some (zi v4), some (zi v5), some (zi v6)], [zi 3, zi v5, zl t0, zi t1, zr (some (10, 132))], h) (by decide +kernel) rfl ?_
  refine zG_iremc (by decide +kernel) (by decide) ?_
  refine zG_if (op := .ne) (off := 7) (tgt := 52) (by decide +kernel) rfl Iff.rfl (fun c3 => ?_) (fun c3 => ?_)
  · refine zG_run t_Catalog [(.lconst 0, 0, 0)] (53, [some (zr (some (1, 74))), some (zr (some (3, o1))), none, some (zi v3), some (zi v4), some (zi v5), some (zi v6)], [zl 0, zl t0, zi t1, zr (some (10, 132))], h) (by decide +kernel) rfl ?_
    exact zG_forget (L' := [some (zr (some (1, 74))), some (zr (some (3, o1))), none, some (zi v3), some (zi v4), some (zi v5), some (zi v6)]) (And.intro rfl (And.intro rfl (And.intro rfl (And.intro rfl (And.intro rfl (And.intro rfl trivial)))))) (k_Catalog_tellUnset_j53 hl)
  · refine zG_run t_Catalog [(.lconst 1, 0, 0), (.goto 4, 0, 0)] (53, [some (zr (some (1, 74))), some (zr (some (3, o1))), none, some (zi v3), some (zi v4), some (zi v5), some (zi v6)], [zl 1, zl t0, zi t1, zr (some (10, 132))], h) (by decide +kernel) rfl ?_
    exact zG_forget (L' := [some (zr (some (1, 74))), some (zr (some (3, o1))), none, some (zi v3), some (zi v4), some (zi v5), some (zi v6)]) (And.intro rfl (And.intro rfl (And.intro rfl (And.intro rfl (And.intro rfl (And.intro rfl trivial)))))) (k_Catalog_tellUnset_j53 hl)
set_option maxRecDepth 20000 in
theorem k_Catalog_tellUnset_b13 {l : Launch} {X : zX} (hl : l.stackTraces = false) {o1 : Nat} {h : zH} {v3 : Int32} {v4 : Int32} {v5 : Int32} {v6 : Int32} : zGl l m_Catalog_tellUnset X 0 0 (f_Catalog_tellUnset_b13 o1 h v3 v4 v5 v6) (13, [some (zr (some (1, 74))), some (zr (some (3, o1))), none, some (zi v3), some (zi v4), some (zi v5), some (zi v6)], [], h) (Sum.elim (fun s : Int32 × Int32 × zH => .inl (13, [some (zr (some (1, 74))), some (zr (some (3, o1))), none, some (zi v3), some (zi v4), some (zi s.1), some (zi s.2.1)], [], s.2.2)) (fun y : zH => .inl (68, [some (zr (some (1, 74))), some (zr (some (3, o1))), none, some (zi v3), some (zi v4), none, none], [], y))) := by
  unfold f_Catalog_tellUnset_b13
  refine zG_run t_Catalog [(.iload 6, 0, 0), (.aload_n 1, 0, 0), (.getfield 56, 3, 0)] (19, [some (zr (some (1, 74))), some (zr (some (3, o1))), none, some (zi v3), some (zi v4), some (zi v5), some (zi v6)], [zi (h.1 o1 0), zi v6], h) (by decide +kernel) rfl ?_
  refine zG_icmp (op := .ge) (off := 49) (tgt := 68) (by decide +kernel) rfl Iff.rfl (fun c5 => ?_) (fun c5 => ?_)
  · exact zG_end (L' := [some (zr (some (1, 74))), some (zr (some (3, o1))), none, some (zi v3), some (zi v4), none, none]) rfl (And.intro rfl (And.intro rfl (And.intro rfl (And.intro rfl trivial))))
  · refine zG_run t_Catalog [(.aload_n 0, 0, 0), (.getfield 43, 1, 12), (.iload 6, 0, 0), (.iload 5, 0, 0), (.iconst 3, 0, 0)] (31, [some (zr (some (1, 74))), some (zr (some (3, o1))), none, some (zi v3), some (zi v4), some (zi v5), some (zi v6)], [zi 3, zi v5, zi v6, zr (some (10, 132))], h) (by decide +kernel) rfl ?_
    refine zG_iremc (by decide +kernel) (by decide) ?_
    refine zG_run t_Catalog [(.iconst 1, 0, 0)] (33, [some (zr (some (1, 74))), some (zr (some (3, o1))), none, some (zi v3), some (zi v4), some (zi v5), some (zi v6)], [zi 1, zi (zrem v5 3), zi v6, zr (some (10, 132))], h) (by decide +kernel) rfl ?_
    refine zG_icmp (op := .ne) (off := 7) (tgt := 40) (by decide +kernel) rfl Iff.rfl (fun c4 => ?_) (fun c4 => ?_)
    · refine zG_run t_Catalog [(.lconst 0, 0, 0)] (41, [some (zr (some (1, 74))), some (zr (some (3, o1))), none, some (zi v3), some (zi v4), some (zi v5), some (zi v6)], [zl 0, zi v6, zr (some (10, 132))], h) (by decide +kernel) rfl ?_
      exact zG_forget (L' := [some (zr (some (1, 74))), some (zr (some (3, o1))), none, some (zi v3), some (zi v4), some (zi v5), some (zi v6)]) (And.intro rfl (And.intro rfl (And.intro rfl (And.intro rfl (And.intro rfl (And.intro rfl trivial)))))) (k_Catalog_tellUnset_j41 hl)
    · refine zG_run t_Catalog [(.lconst 1, 0, 0), (.goto 4, 0, 0)] (41, [some (zr (some (1, 74))), some (zr (some (3, o1))), none, some (zi v3), some (zi v4), some (zi v5), some (zi v6)], [zl 1, zi v6, zr (some (10, 132))], h) (by decide +kernel) rfl ?_
      exact zG_forget (L' := [some (zr (some (1, 74))), some (zr (some (3, o1))), none, some (zi v3), some (zi v4), some (zi v5), some (zi v6)]) (And.intro rfl (And.intro rfl (And.intro rfl (And.intro rfl (And.intro rfl (And.intro rfl trivial)))))) (k_Catalog_tellUnset_j41 hl)
set_option maxRecDepth 20000 in
theorem k_Catalog_tellUnset {l : Launch} {X : zX} (hl : l.stackTraces = false) {o1 : Nat} {h : zH} {v2 : Int32} {v3 : Int32} {v4 : Int32} : zGl l m_Catalog_tellUnset X 0 0 (f_Catalog_tellUnset o1 h v2 v3 v4) (0, [some (zr (some (1, 74))), some (zr (some (3, o1))), some (zi v2), some (zi v3), some (zi v4), none, none], [], h) (fun x => .inr ((fun a => (.inl (some (zi a.1)), a.2) : Int32 × zH → zF) x)) := by
  unfold f_Catalog_tellUnset
  refine zG_run t_Catalog [(.aload_n 0, 0, 0), (.getfield 43, 1, 12)] (4, [some (zr (some (1, 74))), some (zr (some (3, o1))), some (zi v2), some (zi v3), some (zi v4), none, none], [zr (some (10, 132))], h) (by decide +kernel) rfl ?_
  refine zG_callV (idx := 82) (R := (fun a => (none, a))) (as := []) (rest := []) (n := 0) (fun a ha => c_Waves_unsetInputs hl ha) (by decide +kernel) ⟨ok_Waves_unsetInputs, by decide, by decide +kernel⟩ rfl w_103 w_104 w_105 (by decide) rfl rfl rfl (Nat.le_of_ble_eq_true rfl) fun x1 => ?_
  refine zG_run t_Catalog [(.iload_n 2, 0, 0), (.istore 5, 0, 0), (.iconst 0, 0, 0), (.istore 6, 0, 0)] (13, [some (zr (some (1, 74))), some (zr (some (3, o1))), some (zi v2), some (zi v3), some (zi v4), some (zi v2), some (zi 0)], [], x1) (by decide +kernel) rfl ?_
  refine zG_forget (L' := [some (zr (some (1, 74))), some (zr (some (3, o1))), none, some (zi v3), some (zi v4), some (zi v2), some (zi 0)]) (And.intro rfl (And.intro rfl (And.intro rfl (And.intro rfl (And.intro rfl (And.intro rfl trivial)))))) ?_
  refine zG_bind (fun y : zH => (68, [some (zr (some (1, 74))), some (zr (some (3, o1))), none, some (zi v3), some (zi v4), none, none], [], y)) (zG_iter (fun s : Int32 × Int32 × zH => (13, [some (zr (some (1, 74))), some (zr (some (3, o1))), none, some (zi v3), some (zi v4), some (zi s.1), some (zi s.2.1)], [], s.2.2)) fun s => k_Catalog_tellUnset_b13 hl) (fun y7 => ?_)
  refine zG_run t_Catalog [(.aload_n 0, 0, 0), (.getfield 43, 1, 12), (.aload_n 1, 0, 0), (.iload_n 3, 0, 0)] (74, [some (zr (some (1, 74))), some (zr (some (3, o1))), none, some (zi v3), some (zi v4), none, none], [zi v3, zr (some (3, o1)), zr (some (10, 132))], y7) (by decide +kernel) rfl ?_
  refine zG_callV (idx := 89) (R := (fun a => (none, a))) (as := [zr (some (3, o1)), zi v3]) (rest := []) (n := 2) (fun a ha => c_Waves_spread hl ha) (by decide +kernel) ⟨ok_Waves_spread, by decide, by decide +kernel⟩ rfl w_116 w_117 w_118 (by decide) rfl rfl rfl (Nat.le_of_ble_eq_true rfl) fun x8 => ?_
  refine zG_run t_Catalog [(.aload_n 0, 0, 0), (.getfield 43, 1, 12), (.getfield 93, 10, 2), (.iload 4, 0, 0)] (86, [some (zr (some (1, 74))), some (zr (some (3, o1))), none, some (zi v3), some (zi v4), none, none], [zi v4, zr (some (42, 135))], x8) (by decide +kernel) rfl ?_
  refine zG_ald (v := zl (x8.2.1 135 v4.toNatClampNeg)) (n := 22) rfl (by decide +kernel) rfl rfl fun hb9 => ?_
  refine zG_run t_Catalog [(.lconst 1, 0, 0), (.land, 0, 0), (.lconst 1, 0, 0), (.lcmp, 0, 0)] (91, [some (zr (some (1, 74))), some (zr (some (3, o1))), none, some (zi v3), some (zi v4), none, none], [zi (lg_cmp ((x8.2.1 135 v4.toNatClampNeg) &&& 1) 1)], x8) (by decide +kernel) rfl ?_
  refine zG_if (op := .ne) (off := 5) (tgt := 96) (by decide +kernel) rfl (not_congr zcmp0) (fun c12 => ?_) (fun c12 => ?_)
  · refine zG_run t_Catalog [(.aload_n 0, 0, 0), (.getfield 43, 1, 12), (.getfield 96, 10, 3), (.iload 4, 0, 0)] (105, [some (zr (some (1, 74))), some (zr (some (3, o1))), none, some (zi v3), some (zi v4), none, none], [zi v4, zr (some (43, 136))], x8) (by decide +kernel) rfl ?_
    refine zG_ald (v := zl (x8.2.1 136 v4.toNatClampNeg)) (n := 22) rfl (by decide +kernel) rfl rfl fun hb10 => ?_
    refine zG_run t_Catalog [(.lconst 1, 0, 0), (.land, 0, 0), (.lconst 1, 0, 0), (.lcmp, 0, 0)] (110, [some (zr (some (1, 74))), some (zr (some (3, o1))), none, some (zi v3), some (zi v4), none, none], [zi (lg_cmp ((x8.2.1 136 v4.toNatClampNeg) &&& 1) 1)], x8) (by decide +kernel) rfl ?_
    refine zG_if (op := .ne) (off := 7) (tgt := 117) (by decide +kernel) rfl (not_congr zcmp0) (fun c11 => ?_) (fun c11 => ?_)
    · refine zG_run t_Catalog [(.iconst 2, 0, 0)] (118, [some (zr (some (1, 74))), some (zr (some (3, o1))), none, some (zi v3), some (zi v4), none, none], [zi 2], x8) (by decide +kernel) rfl ?_
      exact zG_ret (r := some (zi 2)) rfl (zrd_i rfl (by decide +kernel))
    · refine zG_run t_Catalog [(.iconst 0, 0, 0), (.goto 4, 0, 0)] (118, [some (zr (some (1, 74))), some (zr (some (3, o1))), none, some (zi v3), some (zi v4), none, none], [zi 0], x8) (by decide +kernel) rfl ?_
      exact zG_ret (r := some (zi 0)) rfl (zrd_i rfl (by decide +kernel))
  · refine zG_run t_Catalog [(.iconst 1, 0, 0)] (95, [some (zr (some (1, 74))), some (zr (some (3, o1))), none, some (zi v3), some (zi v4), none, none], [zi 1], x8) (by decide +kernel) rfl ?_
    exact zG_ret (r := some (zi 1)) rfl (zrd_i rfl (by decide +kernel))
theorem c_Catalog_tellUnset {l : Launch} {X : zX} (hl : l.stackTraces = false) {o1 : Nat} {h : zH} {v2 : Int32} {v3 : Int32} {v4 : Int32} {x : Int32 × zH} (hx : f_Catalog_tellUnset o1 h v2 v3 v4 = some x) : zCt l (true, 2) 2 m_Catalog_tellUnset X 0 0 [zr (some (1, 74)), zr (some (3, o1)), zi v2, zi v3, zi v4] h ((fun a => (.inl (some (zi a.1)), a.2) : Int32 × zH → zF) x) :=
  zG_ct (R := fun a => (.inl (some (zi a.1)), a.2)) (x := x) ok_Catalog_tellUnset hl (Nat.le_of_ble_eq_true rfl) hx (k_Catalog_tellUnset hl)
def m_Main_by : zM := (({ cls := "ScanPacker", name := "by", desc := "(III)I" } : Jvm.MethodName), prog_1_method_12_code, 4, (Option.some Jvm.ClassFile.FieldType.int), [], 7)
theorem ok_Main_by : zMok m_Main_by := ⟨by decide +kernel, zW_of 1214 (by decide +kernel) (by decide +kernel), zW_of 122 (by decide +kernel) (by decide +kernel), by decide, by decide +kernel, by decide +kernel⟩
set_option maxRecDepth 20000 in
theorem k_Main_by_j30 {l : Launch} {X : zX} (hl : l.stackTraces = false) {h : zH} : zGl l m_Main_by X 1 6 (f_Main_by_j30 h) (30, [none, none, none, none], [], h) (fun x => .inr ((Sum.elim (fun a => (.inl (some (zi a.1)), a.2)) (fun q => (.inr q.1, q.2)) : (Int32 × zH) ⊕ (Nat × zH) → zF) x)) := by
  unfold f_Main_by_j30
  refine zG_mono (bc' := 0 + 1) (bs' := 0 + 6) (by decide) (by decide) ?_
  exact zG_throw (k := 2) (ik := 92) (ic := 94) rfl (Or.inr rfl) (by decide +kernel) (by decide +kernel) (by decide +kernel) (by decide +kernel) w_3 w_4 (by decide +kernel) (by decide +kernel) (Nat.le_of_ble_eq_true rfl) (by decide) rfl
set_option maxRecDepth 20000 in
theorem k_Main_by_j15 {l : Launch} {X : zX} (hl : l.stackTraces = false) {h : zH} {v1 : Int32} {v2 : Int32} {v3 : Int32} : zGl l m_Main_by X 1 6 (f_Main_by_j15 h v1 v2 v3) (15, [some (zr (some (0, 0))), some (zi v1), some (zi v2), some (zi v3)], [], h) (fun x => .inr ((Sum.elim (fun a => (.inl (some (zi a.1)), a.2)) (fun q => (.inr q.1, q.2)) : (Int32 × zH) ⊕ (Nat × zH) → zF) x)) := by
  unfold f_Main_by_j15
  refine zG_run t_Main [(.iload_n 1, 0, 0)] (16, [some (zr (some (0, 0))), some (zi v1), some (zi v2), some (zi v3)], [zi v1], h) (by decide +kernel) rfl ?_
  refine zG_if (op := .lt) (off := 14) (tgt := 30) (by decide +kernel) rfl Iff.rfl (fun c5 => ?_) (fun c5 => ?_)
  · refine zG_mono (bc' := 1) (bs' := 6) (by decide) (by decide) ?_
    exact zG_forget (L' := [none, none, none, none]) (trivial) (k_Main_by_j30 hl)
  · refine zG_run t_Main [(.iload_n 1, 0, 0), (.aload_n 0, 0, 0), (.getfield 30, 0, 3), (.getfield 218, 1, 2)] (27, [some (zr (some (0, 0))), some (zi v1), some (zi v2), some (zi v3)], [zi (h.1 74 2), zi v1], h) (by decide +kernel) rfl ?_
    refine zG_icmp (op := .lt) (off := 11) (tgt := 38) (by decide +kernel) rfl Iff.rfl (fun c4 => ?_) (fun c4 => ?_)
    · refine zG_run t_Main [(.aload_n 0, 0, 0), (.getfield 30, 0, 3), (.aload_n 0, 0, 0), (.getfield 19, 0, 1)] (46, [some (zr (some (0, 0))), some (zi v1), some (zi v2), some (zi v3)], [zr (h.2.2.1 0 1), zr (some (1, 74))], h) (by decide +kernel) rfl ?_
      refine zG_dyn fun w2 _ => ?_
      refine zG_run t_Main [(.iload_n 1, 0, 0), (.iload_n 2, 0, 0), (.iload_n 3, 0, 0)] (49, [some (zr (some (0, 0))), some (zi v1), some (zi v2), some (zi v3)], [zi v3, zi v2, zi v1, zr (some (3, w2)), zr (some (1, 74))], h) (by decide +kernel) rfl ?_
      refine zG_callV (idx := 221) (R := (fun a => (some (zi a.1), a.2))) (as := [zr (some (3, w2)), zi v1, zi v2, zi v3]) (rest := []) (n := 4) (fun a ha => c_Catalog_tellUnset hl ha) (by decide +kernel) ⟨ok_Catalog_tellUnset, by decide, by decide +kernel⟩ rfl w_250 w_251 w_252 (by decide) rfl rfl rfl (Nat.le_of_ble_eq_true rfl) fun x3 => ?_
      exact zG_ret (r := some (zi x3.1)) rfl (zrd_i rfl (by decide +kernel))
    · refine zG_mono (bc' := 1) (bs' := 6) (by decide) (by decide) ?_
      exact zG_forget (L' := [none, none, none, none]) (trivial) (k_Main_by_j30 hl)
set_option maxRecDepth 20000 in
theorem k_Main_by {l : Launch} {X : zX} (hl : l.stackTraces = false) {h : zH} {v1 : Int32} {v2 : Int32} {v3 : Int32} : zGl l m_Main_by X 3 18 (f_Main_by h v1 v2 v3) (0, [some (zr (some (0, 0))), some (zi v1), some (zi v2), some (zi v3)], [], h) (fun x => .inr ((Sum.elim (fun a => (.inl (some (zi a.1)), a.2)) (fun q => (.inr q.1, q.2)) : (Int32 × zH) ⊕ (Nat × zH) → zF) x)) := by
  unfold f_Main_by
  refine zG_run t_Main [(.aload_n 0, 0, 0), (.iload_n 3, 0, 0)] (2, [some (zr (some (0, 0))), some (zi v1), some (zi v2), some (zi v3)], [zi v3, zr (some (0, 0))], h) (by decide +kernel) rfl ?_
  refine zG_mono (bc' := 2 + 1) (bs' := 12 + 6) (by decide) (by decide) ?_
  refine zG_callX (idx := 122) (R := (fun a => none)) (as := [zi v3]) (rest := []) (n := 1) (fun a h1 ha => c_Main_needLine hl ha) (fun k h1 ha => c_Main_needLine hl ha) (by decide +kernel) ⟨ok_Main_needLine, by decide, by decide +kernel⟩ rfl rfl w_223 w_224 w_225 (by decide) rfl rfl rfl (Nat.le_of_ble_eq_true rfl) (fun _ => rfl) fun x1 => ?_
  refine zG_run t_Main [(.iload_n 2, 0, 0), (.iconst (-1), 0, 0)] (7, [some (zr (some (0, 0))), some (zi v1), some (zi v2), some (zi v3)], [zi (-1), zi v2], x1.2) (by decide +kernel) rfl ?_
  refine zG_icmp (op := .eq) (off := 8) (tgt := 15) (by decide +kernel) rfl Iff.rfl (fun c7 => ?_) (fun c7 => ?_)
  · refine zG_mono (bc' := 1) (bs' := 6) (by decide) (by decide) ?_
    exact zG_forget (L' := [some (zr (some (0, 0))), some (zi v1), some (zi v2), some (zi v3)]) (And.intro rfl (And.intro rfl (And.intro rfl (And.intro rfl trivial)))) (k_Main_by_j15 hl)
  · refine zG_run t_Main [(.aload_n 0, 0, 0), (.iload_n 2, 0, 0)] (12, [some (zr (some (0, 0))), some (zi v1), some (zi v2), some (zi v3)], [zi v2, zr (some (0, 0))], x1.2) (by decide +kernel) rfl ?_
    refine zG_mono (bc' := 1 + 1) (bs' := 6 + 6) (by decide) (by decide) ?_
    refine zG_callX (idx := 175) (R := (fun a => none)) (as := [zi v2]) (rest := []) (n := 1) (fun a h1 ha => c_Main_needFault hl ha) (fun k h1 ha => c_Main_needFault hl ha) (by decide +kernel) ⟨ok_Main_needFault, by decide, by decide +kernel⟩ rfl rfl w_236 w_237 w_238 (by decide) rfl rfl rfl (Nat.le_of_ble_eq_true rfl) (fun _ => rfl) fun x6 => ?_
    refine zG_mono (bc' := 1) (bs' := 6) (by decide) (by decide) ?_
    exact zG_forget (L' := [some (zr (some (0, 0))), some (zi v1), some (zi v2), some (zi v3)]) (And.intro rfl (And.intro rfl (And.intro rfl (And.intro rfl trivial)))) (k_Main_by_j15 hl)
theorem c_Main_by {l : Launch} {X : zX} (hl : l.stackTraces = false) {h : zH} {v1 : Int32} {v2 : Int32} {v3 : Int32} {x : (Int32 × zH) ⊕ (Nat × zH)} (hx : f_Main_by h v1 v2 v3 = some x) : zCt l (true, 2) 2 m_Main_by X 3 18 [zr (some (0, 0)), zi v1, zi v2, zi v3] h ((Sum.elim (fun a => (.inl (some (zi a.1)), a.2)) (fun q => (.inr q.1, q.2)) : (Int32 × zH) ⊕ (Nat × zH) → zF) x) :=
  zG_ct (R := Sum.elim (fun a => (.inl (some (zi a.1)), a.2)) (fun q => (.inr q.1, q.2))) (x := x) ok_Main_by hl (Nat.le_of_ble_eq_true rfl) hx (k_Main_by hl)
def m_Program_costOfPattern : zM := (({ cls := "ScanPacker$Program", name := "costOfPattern", desc := "(LScanPacker$Net;I)I" } : Jvm.MethodName), prog_7_method_7_code, 8, (Option.some Jvm.ClassFile.FieldType.int), [], 2)
theorem ok_Program_costOfPattern : zMok m_Program_costOfPattern := ⟨by decide +kernel, zW_of 1229 (by decide +kernel) (by decide +kernel), zW_of 128 (by decide +kernel) (by decide +kernel), by decide, by decide +kernel, by decide +kernel⟩
set_option maxRecDepth 20000 in
theorem k_Program_costOfPattern_j77 {l : Launch} {X : zX} (hl : l.stackTraces = false) {o1 : Nat} {h : zH} {v2 : Int32} {v4 : Int32} {v5 : Int32} {t0 : Int32} {t1 : Int32} : zGl l m_Program_costOfPattern X 0 0 (f_Program_costOfPattern_j77 o1 h v2 v4 v5 t0 t1) (77, [none, some (zr (some (3, o1))), some (zi v2), none, some (zi v4), some (zi v5), none, none], [zi t0, zi t1], h) (Sum.elim (fun s : Int32 × Int32 => .inl (17, [none, some (zr (some (3, o1))), some (zi v2), some (zi s.1), some (zi v4), some (zi s.2), none, none], [], h)) (fun y : Int32 => .inl (85, [none, some (zr (some (3, o1))), some (zi v2), some (zi y), some (zi v4), none, none, none], [], h))) := by
  unfold f_Program_costOfPattern_j77
  refine zG_run t_Program [(.iadd, 0, 0), (.istore_n 3, 0, 0), (.iinc 5 1, 0, 0), (.goto (-65), 0, 0)] (17, [none, some (zr (some (3, o1))), some (zi v2), some (zi (t1 + t0)), some (zi v4), some (zi (v5 + 1)), none, none], [], h) (by decide +kernel) rfl ?_
  exact zG_end (L' := [none, some (zr (some (3, o1))), some (zi v2), some (zi (t1 + t0)), some (zi v4), some (zi (v5 + 1)), none, none]) rfl (And.intro rfl (And.intro rfl (And.intro rfl (And.intro rfl (And.intro rfl trivial)))))
set_option maxRecDepth 20000 in
theorem k_Program_costOfPattern_b17 {l : Launch} {X : zX} (hl : l.stackTraces = false) {o1 : Nat} {h : zH} {v2 : Int32} {v3 : Int32} {v4 : Int32} {v5 : Int32} : zGl l m_Program_costOfPattern X 0 0 (f_Program_costOfPattern_b17 o1 h v2 v3 v4 v5) (17, [none, some (zr (some (3, o1))), some (zi v2), some (zi v3), some (zi v4), some (zi v5), none, none], [], h) (Sum.elim (fun s : Int32 × Int32 => .inl (17, [none, some (zr (some (3, o1))), some (zi v2), some (zi s.1), some (zi v4), some (zi s.2), none, none], [], h)) (fun y : Int32 => .inl (85, [none, some (zr (some (3, o1))), some (zi v2), some (zi y), some (zi v4), none, none, none], [], h))) := by
  unfold f_Program_costOfPattern_b17
  refine zG_run t_Program [(.iload 5, 0, 0), (.aload_n 1, 0, 0), (.getfield 102, 3, 15), (.iload 4, 0, 0)] (25, [none, some (zr (some (3, o1))), some (zi v2), some (zi v3), some (zi v4), some (zi v5), none, none], [zi v4, zr (some (31, (o1 + 34))), zi v5], h) (by decide +kernel) rfl ?_
  refine zG_ald (v := zi (h.1 (o1 + 34) v4.toNatClampNeg)) (n := 3) rfl (by decide +kernel) rfl rfl fun hb1 => ?_
  refine zG_icmp (op := .ge) (off := 59) (tgt := 85) (by decide +kernel) rfl Iff.rfl (fun c9 => ?_) (fun c9 => ?_)
  · exact zG_end (L' := [none, some (zr (some (3, o1))), some (zi v2), some (zi v3), some (zi v4), none, none, none]) rfl (And.intro rfl (And.intro rfl (And.intro rfl (And.intro rfl trivial))))
  · refine zG_run t_Program [(.aload_n 1, 0, 0), (.getfield 105, 3, 14), (.iload 4, 0, 0)] (35, [none, some (zr (some (3, o1))), some (zi v2), some (zi v3), some (zi v4), some (zi v5), none, none], [zi v4, zr (some (29, (o1 + 30)))], h) (by decide +kernel) rfl ?_
    refine zG_ald (v := zr (some (30, ((o1 + 30) + (1 + 1 * v4.toNatClampNeg))))) (n := 3) rfl (by decide +kernel) rfl rfl fun hb2 => ?_
    refine zG_run t_Program [(.iload 5, 0, 0), (.iconst 1, 0, 0), (.isub, 0, 0)] (40, [none, some (zr (some (3, o1))), some (zi v2), some (zi v3), some (zi v4), some (zi v5), none, none], [zi (v5 - 1), zr (some (30, ((o1 + 30) + (1 + 1 * v4.toNatClampNeg))))], h) (by decide +kernel) rfl ?_
    refine zG_ald (v := zi (h.1 ((o1 + 30) + (1 + 1 * v4.toNatClampNeg)) (v5 - 1).toNatClampNeg)) (n := 6) rfl (by decide +kernel) rfl rfl fun hb3 => ?_
    refine zG_run t_Program [(.istore 6, 0, 0), (.aload_n 1, 0, 0), (.getfield 105, 3, 14), (.iload 4, 0, 0)] (49, [none, some (zr (some (3, o1))), some (zi v2), some (zi v3), some (zi v4), some (zi v5), some (zi (h.1 ((o1 + 30) + (1 + 1 * v4.toNatClampNeg)) (v5 - 1).toNatClampNeg)), none], [zi v4, zr (some (29, (o1 + 30)))], h) (by decide +kernel) rfl ?_
    refine zG_ald (v := zr (some (30, ((o1 + 30) + (1 + 1 * v4.toNatClampNeg))))) (n := 3) rfl (by decide +kernel) rfl rfl fun hb4 => ?_
    refine zG_run t_Program [(.iload 5, 0, 0)] (52, [none, some (zr (some (3, o1))), some (zi v2), some (zi v3), some (zi v4), some (zi v5), some (zi (h.1 ((o1 + 30) + (1 + 1 * v4.toNatClampNeg)) (v5 - 1).toNatClampNeg)), none], [zi v5, zr (some (30, ((o1 + 30) + (1 + 1 * v4.toNatClampNeg))))], h) (by decide +kernel) rfl ?_
    refine zG_ald (v := zi (h.1 ((o1 + 30) + (1 + 1 * v4.toNatClampNeg)) v5.toNatClampNeg)) (n := 6) rfl (by decide +kernel) rfl rfl fun hb5 => ?_
    refine zG_run t_Program [(.istore 7, 0, 0), (.iload_n 3, 0, 0), (.iload_n 2, 0, 0), (.iload 6, 0, 0)] (59, [none, some (zr (some (3, o1))), some (zi v2), some (zi v3), some (zi v4), some (zi v5), some (zi (h.1 ((o1 + 30) + (1 + 1 * v4.toNatClampNeg)) (v5 - 1).toNatClampNeg)), some (zi (h.1 ((o1 + 30) + (1 + 1 * v4.toNatClampNeg)) v5.toNatClampNeg))], [zi (h.1 ((o1 + 30) + (1 + 1 * v4.toNatClampNeg)) (v5 - 1).toNatClampNeg), zi v2, zi v3], h) (by decide +kernel) rfl ?_
    refine zG_callN (idx := 108) (host := "ScanPacker") (R := (fun a => (some (zi a), h))) (as := [zi v2, zi (h.1 ((o1 + 30) + (1 + 1 * v4.toNatClampNeg)) (v5 - 1).toNatClampNeg)]) (rest := [zi v3]) (n := 2) (fun a ha => c_Main_bitOf hl ha) (by decide +kernel) ⟨ok_Main_bitOf, by decide, by decide +kernel⟩ rfl (by decide +kernel) w_68 rfl rfl (Nat.le_of_ble_eq_true rfl) fun x6 => ?_
    refine zG_run t_Program [(.iload_n 2, 0, 0), (.iload 7, 0, 0)] (65, [none, some (zr (some (3, o1))), some (zi v2), some (zi v3), some (zi v4), some (zi v5), some (zi (h.1 ((o1 + 30) + (1 + 1 * v4.toNatClampNeg)) (v5 - 1).toNatClampNeg)), some (zi (h.1 ((o1 + 30) + (1 + 1 * v4.toNatClampNeg)) v5.toNatClampNeg))], [zi (h.1 ((o1 + 30) + (1 + 1 * v4.toNatClampNeg)) v5.toNatClampNeg), zi v2, zi x6, zi v3], h) (by decide +kernel) rfl ?_
    refine zG_callN (idx := 108) (host := "ScanPacker") (R := (fun a => (some (zi a), h))) (as := [zi v2, zi (h.1 ((o1 + 30) + (1 + 1 * v4.toNatClampNeg)) v5.toNatClampNeg)]) (rest := [zi x6, zi v3]) (n := 2) (fun a ha => c_Main_bitOf hl ha) (by decide +kernel) ⟨ok_Main_bitOf, by decide, by decide +kernel⟩ rfl (by decide +kernel) w_68 rfl rfl (Nat.le_of_ble_eq_true rfl) fun x7 => ?_
    refine zG_icmp (op := .eq) (off := 8) (tgt := 76) (by decide +kernel) rfl Iff.rfl (fun c8 => ?_) (fun c8 => ?_)
    · refine zG_run t_Program [(.iconst 0, 0, 0)] (77, [none, some (zr (some (3, o1))), some (zi v2), some (zi v3), some (zi v4), some (zi v5), some (zi (h.1 ((o1 + 30) + (1 + 1 * v4.toNatClampNeg)) (v5 - 1).toNatClampNeg)), some (zi (h.1 ((o1 + 30) + (1 + 1 * v4.toNatClampNeg)) v5.toNatClampNeg))], [zi 0, zi v3], h) (by decide +kernel) rfl ?_
      exact zG_forget (L' := [none, some (zr (some (3, o1))), some (zi v2), none, some (zi v4), some (zi v5), none, none]) (And.intro rfl (And.intro rfl (And.intro rfl (And.intro rfl trivial)))) (k_Program_costOfPattern_j77 hl)
    · refine zG_run t_Program [(.iload 5, 0, 0), (.goto 4, 0, 0)] (77, [none, some (zr (some (3, o1))), some (zi v2), some (zi v3), some (zi v4), some (zi v5), some (zi (h.1 ((o1 + 30) + (1 + 1 * v4.toNatClampNeg)) (v5 - 1).toNatClampNeg)), some (zi (h.1 ((o1 + 30) + (1 + 1 * v4.toNatClampNeg)) v5.toNatClampNeg))], [zi v5, zi v3], h) (by decide +kernel) rfl ?_
      exact zG_forget (L' := [none, some (zr (some (3, o1))), some (zi v2), none, some (zi v4), some (zi v5), none, none]) (And.intro rfl (And.intro rfl (And.intro rfl (And.intro rfl trivial)))) (k_Program_costOfPattern_j77 hl)
set_option maxRecDepth 20000 in
theorem k_Program_costOfPattern_b5 {l : Launch} {X : zX} (hl : l.stackTraces = false) {o1 : Nat} {h : zH} {v2 : Int32} {v3 : Int32} {v4 : Int32} : zGl l m_Program_costOfPattern X 0 0 (f_Program_costOfPattern_b5 o1 h v2 v3 v4) (5, [none, some (zr (some (3, o1))), some (zi v2), some (zi v3), some (zi v4), none, none, none], [], h) (Sum.elim (fun s : Int32 × Int32 => .inl (5, [none, some (zr (some (3, o1))), some (zi v2), some (zi s.1), some (zi s.2), none, none, none], [], h)) (fun y : Int32 => .inl (91, [none, none, none, some (zi y), none, none, none, none], [], h))) := by
  unfold f_Program_costOfPattern_b5
  refine zG_run t_Program [(.iload 4, 0, 0), (.aload_n 1, 0, 0), (.getfield 92, 3, 2)] (11, [none, some (zr (some (3, o1))), some (zi v2), some (zi v3), some (zi v4), none, none, none], [zi (h.1 o1 2), zi v4], h) (by decide +kernel) rfl ?_
  refine zG_icmp (op := .ge) (off := 80) (tgt := 91) (by decide +kernel) rfl Iff.rfl (fun c12 => ?_) (fun c12 => ?_)
  · exact zG_end (L' := [none, none, none, some (zi v3), none, none, none, none]) rfl (And.intro rfl trivial)
  · refine zG_run t_Program [(.iconst 1, 0, 0), (.istore 5, 0, 0)] (17, [none, some (zr (some (3, o1))), some (zi v2), some (zi v3), some (zi v4), some (zi 1), none, none], [], h) (by decide +kernel) rfl ?_
    refine zG_forget (L' := [none, some (zr (some (3, o1))), some (zi v2), some (zi v3), some (zi v4), some (zi 1), none, none]) (And.intro rfl (And.intro rfl (And.intro rfl (And.intro rfl (And.intro rfl trivial))))) ?_
    refine zG_bind (fun y : Int32 => (85, [none, some (zr (some (3, o1))), some (zi v2), some (zi y), some (zi v4), none, none, none], [], h)) (zG_iter (fun s : Int32 × Int32 => (17, [none, some (zr (some (3, o1))), some (zi v2), some (zi s.1), some (zi v4), some (zi s.2), none, none], [], h)) fun s => k_Program_costOfPattern_b17 hl) (fun y11 => ?_)
    refine zG_run t_Program [(.iinc 4 1, 0, 0), (.goto (-83), 0, 0)] (5, [none, some (zr (some (3, o1))), some (zi v2), some (zi y11), some (zi (v4 + 1)), none, none, none], [], h) (by decide +kernel) rfl ?_
    exact zG_end (L' := [none, some (zr (some (3, o1))), some (zi v2), some (zi y11), some (zi (v4 + 1)), none, none, none]) rfl (And.intro rfl (And.intro rfl (And.intro rfl (And.intro rfl trivial))))
set_option maxRecDepth 20000 in
theorem k_Program_costOfPattern {l : Launch} {X : zX} (hl : l.stackTraces = false) {o1 : Nat} {h : zH} {v2 : Int32} : zGl l m_Program_costOfPattern X 0 0 (f_Program_costOfPattern o1 h v2) (0, [some (zr (some (6, 137))), some (zr (some (3, o1))), some (zi v2), none, none, none, none, none], [], h) (fun x => .inr ((fun a => (.inl (some (zi a)), h) : Int32 → zF) x)) := by
  unfold f_Program_costOfPattern
  refine zG_run t_Program [(.iconst 0, 0, 0), (.istore_n 3, 0, 0), (.iconst 0, 0, 0), (.istore 4, 0, 0)] (5, [some (zr (some (6, 137))), some (zr (some (3, o1))), some (zi v2), some (zi 0), some (zi 0), none, none, none], [], h) (by decide +kernel) rfl ?_
  refine zG_forget (L' := [none, some (zr (some (3, o1))), some (zi v2), some (zi 0), some (zi 0), none, none, none]) (And.intro rfl (And.intro rfl (And.intro rfl (And.intro rfl trivial)))) ?_
  refine zG_bind (fun y : Int32 => (91, [none, none, none, some (zi y), none, none, none, none], [], h)) (zG_iter (fun s : Int32 × Int32 => (5, [none, some (zr (some (3, o1))), some (zi v2), some (zi s.1), some (zi s.2), none, none, none], [], h)) fun s => k_Program_costOfPattern_b5 hl) (fun y14 => ?_)
  refine zG_run t_Program [(.iload_n 3, 0, 0)] (92, [none, none, none, some (zi y14), none, none, none, none], [zi y14], h) (by decide +kernel) rfl ?_
  exact zG_ret (r := some (zi y14)) rfl (zrd_i rfl (by decide +kernel))
theorem c_Program_costOfPattern {l : Launch} {X : zX} (hl : l.stackTraces = false) {o1 : Nat} {h : zH} {v2 : Int32} {x : Int32} (hx : f_Program_costOfPattern o1 h v2 = some x) : zCt l (true, 2) 2 m_Program_costOfPattern X 0 0 [zr (some (6, 137)), zr (some (3, o1)), zi v2] h ((fun a => (.inl (some (zi a)), h) : Int32 → zF) x) :=
  zG_ct (R := fun a => (.inl (some (zi a)), h)) (x := x) ok_Program_costOfPattern hl (Nat.le_of_ble_eq_true rfl) hx (k_Program_costOfPattern hl)
def m_Main_program : zM := (({ cls := "ScanPacker", name := "program", desc := "(II)I" } : Jvm.MethodName), prog_1_method_13_code, 3, (Option.some Jvm.ClassFile.FieldType.int), [], 7)
theorem ok_Main_program : zMok m_Main_program := ⟨by decide +kernel, zW_of 1225 (by decide +kernel) (by decide +kernel), zW_of 122 (by decide +kernel) (by decide +kernel), by decide, by decide +kernel, by decide +kernel⟩
set_option maxRecDepth 20000 in
theorem k_Main_program_j28 {l : Launch} {X : zX} (hl : l.stackTraces = false) {h : zH} : zGl l m_Main_program X 1 6 (f_Main_program_j28 h) (28, [none, none, none], [], h) (fun x => .inr ((Sum.elim (fun a => (.inl (some (zi a.1)), a.2)) (fun q => (.inr q.1, q.2)) : (Int32 × zH) ⊕ (Nat × zH) → zF) x)) := by
  unfold f_Main_program_j28
  refine zG_mono (bc' := 0 + 1) (bs' := 0 + 6) (by decide) (by decide) ?_
  exact zG_throw (k := 1) (ik := 109) (ic := 111) rfl (Or.inl rfl) (by decide +kernel) (by decide +kernel) (by decide +kernel) (by decide +kernel) w_176 w_177 (by decide +kernel) (by decide +kernel) (Nat.le_of_ble_eq_true rfl) (by decide) rfl
set_option maxRecDepth 20000 in
theorem k_Main_program {l : Launch} {X : zX} (hl : l.stackTraces = false) {h : zH} {v1 : Int32} {v2 : Int32} : zGl l m_Main_program X 1 6 (f_Main_program h v1 v2) (0, [some (zr (some (0, 0))), some (zi v1), some (zi v2)], [], h) (fun x => .inr ((Sum.elim (fun a => (.inl (some (zi a.1)), a.2)) (fun q => (.inr q.1, q.2)) : (Int32 × zH) ⊕ (Nat × zH) → zF) x)) := by
  unfold f_Main_program
  refine zG_run t_Main [(.aload_n 0, 0, 0)] (1, [some (zr (some (0, 0))), some (zi v1), some (zi v2)], [zr (some (0, 0))], h) (by decide +kernel) rfl ?_
  refine zG_callV (idx := 225) (R := (fun a => (none, a))) (as := []) (rest := []) (n := 0) (fun a ha => c_Main_planNow hl ha) (by decide +kernel) ⟨ok_Main_planNow, by decide, by decide +kernel⟩ rfl w_204 w_205 w_206 (by decide) rfl rfl rfl (Nat.le_of_ble_eq_true rfl) fun x1 => ?_
  refine zG_run t_Main [(.iload_n 1, 0, 0)] (5, [some (zr (some (0, 0))), some (zi v1), some (zi v2)], [zi v1], x1) (by decide +kernel) rfl ?_
  refine zG_if (op := .lt) (off := 23) (tgt := 28) (by decide +kernel) rfl Iff.rfl (fun c14 => ?_) (fun c14 => ?_)
  · refine zG_mono (bc' := 1) (bs' := 6) (by decide) (by decide) ?_
    exact zG_forget (L' := [none, none, none]) (trivial) (k_Main_program_j28 hl)
  · refine zG_run t_Main [(.iload_n 1, 0, 0), (.aload_n 0, 0, 0), (.getfield 37, 0, 4), (.getfield 228, 6, 3)] (16, [some (zr (some (0, 0))), some (zi v1), some (zi v2)], [zi (x1.1 137 3), zi v1], x1) (by decide +kernel) rfl ?_
    refine zG_icmp (op := .ge) (off := 12) (tgt := 28) (by decide +kernel) rfl Iff.rfl (fun c13 => ?_) (fun c13 => ?_)
    · refine zG_mono (bc' := 1) (bs' := 6) (by decide) (by decide) ?_
      exact zG_forget (L' := [none, none, none]) (trivial) (k_Main_program_j28 hl)
    · refine zG_run t_Main [(.iload_n 2, 0, 0)] (20, [some (zr (some (0, 0))), some (zi v1), some (zi v2)], [zi v2], x1) (by decide +kernel) rfl ?_
      refine zG_if (op := .lt) (off := 8) (tgt := 28) (by decide +kernel) rfl Iff.rfl (fun c12 => ?_) (fun c12 => ?_)
      · refine zG_mono (bc' := 1) (bs' := 6) (by decide) (by decide) ?_
        exact zG_forget (L' := [none, none, none]) (trivial) (k_Main_program_j28 hl)
      · refine zG_run t_Main [(.iload_n 2, 0, 0), (.iconst 3, 0, 0)] (25, [some (zr (some (0, 0))), some (zi v1), some (zi v2)], [zi 3, zi v2], x1) (by decide +kernel) rfl ?_
        refine zG_icmp (op := .le) (off := 11) (tgt := 36) (by decide +kernel) rfl Iff.rfl (fun c11 => ?_) (fun c11 => ?_)
        · refine zG_run t_Main [(.iload_n 2, 0, 0)] (37, [some (zr (some (0, 0))), some (zi v1), some (zi v2)], [zi v2], x1) (by decide +kernel) rfl ?_
          refine zG_case (fun c3 => ?_) (fun c3 => ?_)
          · refine zG_tin (k := 0) (off := 27) (tgt := 64) (dflt := 68) (lo := 0) (hi := 2) (offs := #[27, 37, 47]) (len := 27) c3 (by decide +kernel) (by decide +kernel) ?_
            refine zG_run t_Main [(.aload_n 0, 0, 0), (.getfield 37, 0, 4), (.getfield 231, 6, 0), (.iload_n 1, 0, 0)] (72, [some (zr (some (0, 0))), some (zi v1), some (zi v2)], [zi v1, zr (some (44, 138))], x1) (by decide +kernel) rfl ?_
            refine zG_ald (v := zi (x1.1 138 v1.toNatClampNeg)) (n := 44) rfl (by decide +kernel) rfl rfl fun hb2 => ?_
            exact zG_ret (r := some (zi (x1.1 138 v1.toNatClampNeg))) rfl (zrd_i rfl (by decide +kernel))
          · refine zG_case (fun c5 => ?_) (fun c5 => ?_)
            · refine zG_tin (k := 1) (off := 37) (tgt := 74) (dflt := 68) (lo := 0) (hi := 2) (offs := #[27, 37, 47]) (len := 27) c5 (by decide +kernel) (by decide +kernel) ?_
              refine zG_run t_Main [(.aload_n 0, 0, 0), (.getfield 37, 0, 4), (.getfield 234, 6, 1), (.iload_n 1, 0, 0)] (82, [some (zr (some (0, 0))), some (zi v1), some (zi v2)], [zi v1, zr (some (45, 139))], x1) (by decide +kernel) rfl ?_
              refine zG_ald (v := zi (x1.1 139 v1.toNatClampNeg)) (n := 44) rfl (by decide +kernel) rfl rfl fun hb4 => ?_
              exact zG_ret (r := some (zi (x1.1 139 v1.toNatClampNeg))) rfl (zrd_i rfl (by decide +kernel))
            · refine zG_case (fun c9 => ?_) (fun c9 => ?_)
              · refine zG_tin (k := 2) (off := 47) (tgt := 84) (dflt := 68) (lo := 0) (hi := 2) (offs := #[27, 37, 47]) (len := 27) c9 (by decide +kernel) (by decide +kernel) ?_
                refine zG_run t_Main [(.aload_n 0, 0, 0), (.getfield 37, 0, 4), (.aload_n 0, 0, 0), (.getfield 19, 0, 1)] (92, [some (zr (some (0, 0))), some (zi v1), some (zi v2)], [zr (x1.2.2.1 0 1), zr (some (6, 137))], x1) (by decide +kernel) rfl ?_
                refine zG_dyn fun w6 _ => ?_
                refine zG_run t_Main [(.aload_n 0, 0, 0), (.getfield 37, 0, 4), (.getfield 231, 6, 0), (.iload_n 1, 0, 0)] (100, [some (zr (some (0, 0))), some (zi v1), some (zi v2)], [zi v1, zr (some (44, 138)), zr (some (3, w6)), zr (some (6, 137))], x1) (by decide +kernel) rfl ?_
                refine zG_ald (v := zi (x1.1 138 v1.toNatClampNeg)) (n := 44) rfl (by decide +kernel) rfl rfl fun hb7 => ?_
                refine zG_callV (idx := 237) (R := (fun a => (some (zi a), x1))) (as := [zr (some (3, w6)), zi (x1.1 138 v1.toNatClampNeg)]) (rest := []) (n := 2) (fun a ha => c_Program_costOfPattern hl ha) (by decide +kernel) ⟨ok_Program_costOfPattern, by decide, by decide +kernel⟩ rfl w_253 w_254 w_255 (by decide) rfl rfl rfl (Nat.le_of_ble_eq_true rfl) fun x8 => ?_
                exact zG_ret (r := some (zi x8)) rfl (zrd_i rfl (by decide +kernel))
              · have e0 : Int32.toInt v2 ≠ 0 := zne (k := 0) c3
                have e1 : Int32.toInt v2 ≠ 1 := zne (k := 1) c5
                have e2 : Int32.toInt v2 ≠ 2 := zne (k := 2) c9
                refine zG_tout (tgt := 105) (dflt := 68) (lo := 0) (hi := 2) (offs := #[27, 37, 47]) (len := 27) (by omega) (by decide +kernel) rfl ?_
                refine zG_run t_Main [(.aload_n 0, 0, 0), (.getfield 37, 0, 4), (.getfield 241, 6, 2), (.iload_n 1, 0, 0)] (113, [some (zr (some (0, 0))), some (zi v1), some (zi v2)], [zi v1, zr (some (46, 140))], x1) (by decide +kernel) rfl ?_
                refine zG_ald (v := zi (x1.1 140 v1.toNatClampNeg)) (n := 44) rfl (by decide +kernel) rfl rfl fun hb10 => ?_
                exact zG_ret (r := some (zi (x1.1 140 v1.toNatClampNeg))) rfl (zrd_i rfl (by decide +kernel))
        · refine zG_mono (bc' := 1) (bs' := 6) (by decide) (by decide) ?_
          exact zG_forget (L' := [none, none, none]) (trivial) (k_Main_program_j28 hl)
theorem c_Main_program {l : Launch} {X : zX} (hl : l.stackTraces = false) {h : zH} {v1 : Int32} {v2 : Int32} {x : (Int32 × zH) ⊕ (Nat × zH)} (hx : f_Main_program h v1 v2 = some x) : zCt l (true, 2) 2 m_Main_program X 1 6 [zr (some (0, 0)), zi v1, zi v2] h ((Sum.elim (fun a => (.inl (some (zi a.1)), a.2)) (fun q => (.inr q.1, q.2)) : (Int32 × zH) ⊕ (Nat × zH) → zF) x) :=
  zG_ct (R := Sum.elim (fun a => (.inl (some (zi a.1)), a.2)) (fun q => (.inr q.1, q.2))) (x := x) ok_Main_program hl (Nat.le_of_ble_eq_true rfl) hx (k_Main_program hl)
