/-! one turn of the law, by wip/whole/plaw.py -/
theorem zG_callSX {l : Launch} {M M' : zM} {X : zX} {bc bs pc idx n mc ms : Nat} {α : Type} {L : List (Option zV)} {st as rest : List zV} {h : zH} {K : α → zC ⊕ zF} {e : Option (Int32 × zH)} {f : Int32 × zH → Option α} {q0 : Nat × Nat × Nat × Nat} {r0 : List (Nat × Nat × Nat × Nat)} (hct : ∀ a, e = some a → zCt l (true, 2) 2 M' X mc ms as h (.inl (some (zi a.1)), a.2)) (hd : decode M.2.1 pc = .ok (.invokestatic idx, 3)) (hcd : zcd M M' n) (hhh : M'.2.2.2.2.1 = q0 :: r0) (hlk : Cond.methodLink M.1.cls idx M'.1 ∈ zW) (hsm : Cond.static M'.1 ∈ zW) (hst : st = as.reverse ++ rest) (hn : as.length = n) (hrs : (rest.map zcat).sum ≤ 8)
    (k : ∀ a, zGl l M X bc bs (f a) (pc + 3, L, zi a.1 :: rest, a.2) K) : zGl l M X (bc + mc) (bs + ms) (e.bind f) (pc, L, st, h) K := by
  intro x hx P xc xs hP
  cases he : e with
  | none => rw [he] at hx; cases hx
  | some a =>
    rw [he] at hx
    have e1 : xc + (bc + mc) = xc + bc + mc := (Nat.add_assoc _ _ _).symm
    have e2 : xs + (bs + ms) = xs + bs + ms := (Nat.add_assoc _ _ _).symm
    rw [e1, e2]
    refine zV_callSX (g' := (true, 2)) (bc := xc + bc) (bs := xs + bs) hd (hct a he) hcd hhh hlk hsm hst hn hrs (Or.inl rfl) ⟨fun r hr _ => ?_, fun k hk => by cases hk⟩
    cases hr
    exact k a x hx P xc xs hP
theorem zG_scr {l : Launch} {M : zM} {X : zX} {bc bs pc : Nat} {α : Type} {L : List (Option zV)} {st : List zV} {h : zH} {K : α → zC ⊕ zF} {e : Option α} {i : Int32} (hd : decode M.2.1 pc = .ok (.iaload, 1)) (k : zb i X.1 = true → zGl l M X bc bs e (pc + 1, L, zi (X.2 i.toNatClampNeg) :: st, h) K) : zGl l M X bc bs (zg (zb i X.1) e) (pc, L, zi i :: zr (some (200, zSO)) :: st, h) K := by
  intro x hx P xc xs hP
  obtain ⟨h1, h2⟩ := zg_t hx
  exact zV_st (zS_scr hd h1) zle.refl' (k h1 x h2 P xc xs hP)
theorem t_Law : zTok "ScanPackerLaw" [] := fun q hq => by cases hq
theorem wl_0 : (Jvm.Cond.methodLink "ScanPackerLaw" (74 : Nat) ({ cls := "ScanPacker", name := "feed", desc := "(IIIII)I" } : Jvm.MethodName)) ∈ zW := zW_of 702 (by decide +kernel) (by decide +kernel)
theorem wl_1 : (Jvm.Cond.instanceMethod ({ cls := "ScanPacker", name := "feed", desc := "(IIIII)I" } : Jvm.MethodName)) ∈ zW := zW_of 703 (by decide +kernel) (by decide +kernel)
theorem wl_2 : (Jvm.Cond.selects "ScanPacker" ({ cls := "ScanPacker", name := "feed", desc := "(IIIII)I" } : Jvm.MethodName) ({ cls := "ScanPacker", name := "feed", desc := "(IIIII)I" } : Jvm.MethodName)) ∈ zW := zW_of 704 (by decide +kernel) (by decide +kernel)
theorem wl_3 : (Jvm.Cond.methodLink "ScanPackerLaw" (78 : Nat) ({ cls := "ScanPackerModel", name := "feed", desc := "(IIIII)I" } : Jvm.MethodName)) ∈ zW := zW_of 1635 (by decide +kernel) (by decide +kernel)
theorem wl_4 : (Jvm.Cond.instanceMethod ({ cls := "ScanPackerModel", name := "feed", desc := "(IIIII)I" } : Jvm.MethodName)) ∈ zW := zW_of 1636 (by decide +kernel) (by decide +kernel)
theorem wl_5 : (Jvm.Cond.selects "ScanPackerModel" ({ cls := "ScanPackerModel", name := "feed", desc := "(IIIII)I" } : Jvm.MethodName) ({ cls := "ScanPackerModel", name := "feed", desc := "(IIIII)I" } : Jvm.MethodName)) ∈ zW := zW_of 1637 (by decide +kernel) (by decide +kernel)
theorem wl_6 : (Jvm.Cond.methodLink "ScanPackerLaw" (84 : Nat) ({ cls := "ScanPackerModel", name := "net", desc := "(I)I" } : Jvm.MethodName)) ∈ zW := zW_of 1639 (by decide +kernel) (by decide +kernel)
theorem wl_7 : (Jvm.Cond.instanceMethod ({ cls := "ScanPackerModel", name := "net", desc := "(I)I" } : Jvm.MethodName)) ∈ zW := zW_of 1640 (by decide +kernel) (by decide +kernel)
theorem wl_8 : (Jvm.Cond.selects "ScanPackerModel" ({ cls := "ScanPackerModel", name := "net", desc := "(I)I" } : Jvm.MethodName) ({ cls := "ScanPackerModel", name := "net", desc := "(I)I" } : Jvm.MethodName)) ∈ zW := zW_of 1641 (by decide +kernel) (by decide +kernel)
theorem wl_9 : (Jvm.Cond.methodLink "ScanPackerLaw" (85 : Nat) ({ cls := "ScanPackerModel", name := "thrown", desc := "()I" } : Jvm.MethodName)) ∈ zW := zW_of 1631 (by decide +kernel) (by decide +kernel)
theorem wl_10 : (Jvm.Cond.instanceMethod ({ cls := "ScanPackerModel", name := "thrown", desc := "()I" } : Jvm.MethodName)) ∈ zW := zW_of 1632 (by decide +kernel) (by decide +kernel)
theorem wl_11 : (Jvm.Cond.selects "ScanPackerModel" ({ cls := "ScanPackerModel", name := "thrown", desc := "()I" } : Jvm.MethodName) ({ cls := "ScanPackerModel", name := "thrown", desc := "()I" } : Jvm.MethodName)) ∈ zW := zW_of 1633 (by decide +kernel) (by decide +kernel)
theorem wl_12 : (Jvm.Cond.methodLink "ScanPackerLaw" (79 : Nat) ({ cls := "ScanPackerLaw", name := "net", desc := "(LScanPacker;I[J)I" } : Jvm.MethodName)) ∈ zW := zW_of 874 (by decide +kernel) (by decide +kernel)
theorem wl_13 : (Jvm.Cond.static ({ cls := "ScanPackerLaw", name := "net", desc := "(LScanPacker;I[J)I" } : Jvm.MethodName)) ∈ zW := zW_of 875 (by decide +kernel) (by decide +kernel)
theorem wl_14 : (Jvm.Cond.methodLink "ScanPackerLaw" (89 : Nat) ({ cls := "ScanPacker", name := "fault", desc := "()I" } : Jvm.MethodName)) ∈ zW := zW_of 710 (by decide +kernel) (by decide +kernel)
theorem wl_15 : (Jvm.Cond.instanceMethod ({ cls := "ScanPacker", name := "fault", desc := "()I" } : Jvm.MethodName)) ∈ zW := zW_of 711 (by decide +kernel) (by decide +kernel)
theorem wl_16 : (Jvm.Cond.selects "ScanPacker" ({ cls := "ScanPacker", name := "fault", desc := "()I" } : Jvm.MethodName) ({ cls := "ScanPacker", name := "fault", desc := "()I" } : Jvm.MethodName)) ∈ zW := zW_of 712 (by decide +kernel) (by decide +kernel)
theorem wl_17 : (Jvm.Cond.methodLink "ScanPackerLaw" (92 : Nat) ({ cls := "ScanPackerModel", name := "fault", desc := "()I" } : Jvm.MethodName)) ∈ zW := zW_of 1788 (by decide +kernel) (by decide +kernel)
theorem wl_18 : (Jvm.Cond.instanceMethod ({ cls := "ScanPackerModel", name := "fault", desc := "()I" } : Jvm.MethodName)) ∈ zW := zW_of 1789 (by decide +kernel) (by decide +kernel)
theorem wl_19 : (Jvm.Cond.selects "ScanPackerModel" ({ cls := "ScanPackerModel", name := "fault", desc := "()I" } : Jvm.MethodName) ({ cls := "ScanPackerModel", name := "fault", desc := "()I" } : Jvm.MethodName)) ∈ zW := zW_of 1790 (by decide +kernel) (by decide +kernel)
theorem wl_20 : (Jvm.Cond.methodLink "ScanPackerLaw" (95 : Nat) ({ cls := "ScanPackerModel", name := "count", desc := "(I)I" } : Jvm.MethodName)) ∈ zW := zW_of 1792 (by decide +kernel) (by decide +kernel)
theorem wl_21 : (Jvm.Cond.instanceMethod ({ cls := "ScanPackerModel", name := "count", desc := "(I)I" } : Jvm.MethodName)) ∈ zW := zW_of 1793 (by decide +kernel) (by decide +kernel)
theorem wl_22 : (Jvm.Cond.selects "ScanPackerModel" ({ cls := "ScanPackerModel", name := "count", desc := "(I)I" } : Jvm.MethodName) ({ cls := "ScanPackerModel", name := "count", desc := "(I)I" } : Jvm.MethodName)) ∈ zW := zW_of 1794 (by decide +kernel) (by decide +kernel)
theorem wl_23 : (Jvm.Cond.methodLink "ScanPackerLaw" (93 : Nat) ({ cls := "ScanPackerLaw", name := "count", desc := "(LScanPacker;I[J)I" } : Jvm.MethodName)) ∈ zW := zW_of 1070 (by decide +kernel) (by decide +kernel)
theorem wl_24 : (Jvm.Cond.static ({ cls := "ScanPackerLaw", name := "count", desc := "(LScanPacker;I[J)I" } : Jvm.MethodName)) ∈ zW := zW_of 1071 (by decide +kernel) (by decide +kernel)
theorem wl_25 : (Jvm.Cond.methodLink "ScanPackerLaw" (99 : Nat) ({ cls := "ScanPackerModel", name := "line", desc := "(II)I" } : Jvm.MethodName)) ∈ zW := zW_of 1844 (by decide +kernel) (by decide +kernel)
theorem wl_26 : (Jvm.Cond.instanceMethod ({ cls := "ScanPackerModel", name := "line", desc := "(II)I" } : Jvm.MethodName)) ∈ zW := zW_of 1845 (by decide +kernel) (by decide +kernel)
theorem wl_27 : (Jvm.Cond.selects "ScanPackerModel" ({ cls := "ScanPackerModel", name := "line", desc := "(II)I" } : Jvm.MethodName) ({ cls := "ScanPackerModel", name := "line", desc := "(II)I" } : Jvm.MethodName)) ∈ zW := zW_of 1846 (by decide +kernel) (by decide +kernel)
theorem wl_28 : (Jvm.Cond.methodLink "ScanPackerLaw" (96 : Nat) ({ cls := "ScanPackerLaw", name := "line", desc := "(LScanPacker;II[J)I" } : Jvm.MethodName)) ∈ zW := zW_of 1140 (by decide +kernel) (by decide +kernel)
theorem wl_29 : (Jvm.Cond.static ({ cls := "ScanPackerLaw", name := "line", desc := "(LScanPacker;II[J)I" } : Jvm.MethodName)) ∈ zW := zW_of 1141 (by decide +kernel) (by decide +kernel)
theorem wl_30 : (Jvm.Cond.methodLink "ScanPackerLaw" (102 : Nat) ({ cls := "ScanPackerModel", name := "letter", desc := "(II)I" } : Jvm.MethodName)) ∈ zW := zW_of 1859 (by decide +kernel) (by decide +kernel)
theorem wl_31 : (Jvm.Cond.instanceMethod ({ cls := "ScanPackerModel", name := "letter", desc := "(II)I" } : Jvm.MethodName)) ∈ zW := zW_of 1860 (by decide +kernel) (by decide +kernel)
theorem wl_32 : (Jvm.Cond.selects "ScanPackerModel" ({ cls := "ScanPackerModel", name := "letter", desc := "(II)I" } : Jvm.MethodName) ({ cls := "ScanPackerModel", name := "letter", desc := "(II)I" } : Jvm.MethodName)) ∈ zW := zW_of 1861 (by decide +kernel) (by decide +kernel)
theorem wl_33 : (Jvm.Cond.methodLink "ScanPackerLaw" (100 : Nat) ({ cls := "ScanPackerLaw", name := "letter", desc := "(LScanPacker;II[J)I" } : Jvm.MethodName)) ∈ zW := zW_of 1152 (by decide +kernel) (by decide +kernel)
theorem wl_34 : (Jvm.Cond.static ({ cls := "ScanPackerLaw", name := "letter", desc := "(LScanPacker;II[J)I" } : Jvm.MethodName)) ∈ zW := zW_of 1153 (by decide +kernel) (by decide +kernel)
theorem wl_35 : (Jvm.Cond.methodLink "ScanPackerLaw" (105 : Nat) ({ cls := "ScanPackerModel", name := "chain", desc := "(II)I" } : Jvm.MethodName)) ∈ zW := zW_of 1863 (by decide +kernel) (by decide +kernel)
theorem wl_36 : (Jvm.Cond.instanceMethod ({ cls := "ScanPackerModel", name := "chain", desc := "(II)I" } : Jvm.MethodName)) ∈ zW := zW_of 1864 (by decide +kernel) (by decide +kernel)
theorem wl_37 : (Jvm.Cond.selects "ScanPackerModel" ({ cls := "ScanPackerModel", name := "chain", desc := "(II)I" } : Jvm.MethodName) ({ cls := "ScanPackerModel", name := "chain", desc := "(II)I" } : Jvm.MethodName)) ∈ zW := zW_of 1865 (by decide +kernel) (by decide +kernel)
theorem wl_38 : (Jvm.Cond.methodLink "ScanPackerLaw" (103 : Nat) ({ cls := "ScanPackerLaw", name := "chain", desc := "(LScanPacker;II[J)I" } : Jvm.MethodName)) ∈ zW := zW_of 1159 (by decide +kernel) (by decide +kernel)
theorem wl_39 : (Jvm.Cond.static ({ cls := "ScanPackerLaw", name := "chain", desc := "(LScanPacker;II[J)I" } : Jvm.MethodName)) ∈ zW := zW_of 1160 (by decide +kernel) (by decide +kernel)
theorem wl_40 : (Jvm.Cond.methodLink "ScanPackerLaw" (108 : Nat) ({ cls := "ScanPackerModel", name := "test", desc := "(II)I" } : Jvm.MethodName)) ∈ zW := zW_of 1867 (by decide +kernel) (by decide +kernel)
theorem wl_41 : (Jvm.Cond.instanceMethod ({ cls := "ScanPackerModel", name := "test", desc := "(II)I" } : Jvm.MethodName)) ∈ zW := zW_of 1868 (by decide +kernel) (by decide +kernel)
theorem wl_42 : (Jvm.Cond.selects "ScanPackerModel" ({ cls := "ScanPackerModel", name := "test", desc := "(II)I" } : Jvm.MethodName) ({ cls := "ScanPackerModel", name := "test", desc := "(II)I" } : Jvm.MethodName)) ∈ zW := zW_of 1869 (by decide +kernel) (by decide +kernel)
theorem wl_43 : (Jvm.Cond.methodLink "ScanPackerLaw" (106 : Nat) ({ cls := "ScanPackerLaw", name := "test", desc := "(LScanPacker;II[J)I" } : Jvm.MethodName)) ∈ zW := zW_of 1170 (by decide +kernel) (by decide +kernel)
theorem wl_44 : (Jvm.Cond.static ({ cls := "ScanPackerLaw", name := "test", desc := "(LScanPacker;II[J)I" } : Jvm.MethodName)) ∈ zW := zW_of 1171 (by decide +kernel) (by decide +kernel)
theorem wl_45 : (Jvm.Cond.methodLink "ScanPackerLaw" (111 : Nat) ({ cls := "ScanPackerModel", name := "row", desc := "(II)I" } : Jvm.MethodName)) ∈ zW := zW_of 1883 (by decide +kernel) (by decide +kernel)
theorem wl_46 : (Jvm.Cond.instanceMethod ({ cls := "ScanPackerModel", name := "row", desc := "(II)I" } : Jvm.MethodName)) ∈ zW := zW_of 1884 (by decide +kernel) (by decide +kernel)
theorem wl_47 : (Jvm.Cond.selects "ScanPackerModel" ({ cls := "ScanPackerModel", name := "row", desc := "(II)I" } : Jvm.MethodName) ({ cls := "ScanPackerModel", name := "row", desc := "(II)I" } : Jvm.MethodName)) ∈ zW := zW_of 1885 (by decide +kernel) (by decide +kernel)
theorem wl_48 : (Jvm.Cond.methodLink "ScanPackerLaw" (109 : Nat) ({ cls := "ScanPackerLaw", name := "row", desc := "(LScanPacker;II[J)I" } : Jvm.MethodName)) ∈ zW := zW_of 1190 (by decide +kernel) (by decide +kernel)
theorem wl_49 : (Jvm.Cond.static ({ cls := "ScanPackerLaw", name := "row", desc := "(LScanPacker;II[J)I" } : Jvm.MethodName)) ∈ zW := zW_of 1191 (by decide +kernel) (by decide +kernel)
theorem wl_50 : (Jvm.Cond.methodLink "ScanPackerLaw" (114 : Nat) ({ cls := "ScanPackerModel", name := "cube", desc := "(II)I" } : Jvm.MethodName)) ∈ zW := zW_of 1887 (by decide +kernel) (by decide +kernel)
theorem wl_51 : (Jvm.Cond.instanceMethod ({ cls := "ScanPackerModel", name := "cube", desc := "(II)I" } : Jvm.MethodName)) ∈ zW := zW_of 1888 (by decide +kernel) (by decide +kernel)
theorem wl_52 : (Jvm.Cond.selects "ScanPackerModel" ({ cls := "ScanPackerModel", name := "cube", desc := "(II)I" } : Jvm.MethodName) ({ cls := "ScanPackerModel", name := "cube", desc := "(II)I" } : Jvm.MethodName)) ∈ zW := zW_of 1889 (by decide +kernel) (by decide +kernel)
theorem wl_53 : (Jvm.Cond.methodLink "ScanPackerLaw" (112 : Nat) ({ cls := "ScanPackerLaw", name := "cube", desc := "(LScanPacker;II[J)I" } : Jvm.MethodName)) ∈ zW := zW_of 1201 (by decide +kernel) (by decide +kernel)
theorem wl_54 : (Jvm.Cond.static ({ cls := "ScanPackerLaw", name := "cube", desc := "(LScanPacker;II[J)I" } : Jvm.MethodName)) ∈ zW := zW_of 1202 (by decide +kernel) (by decide +kernel)
theorem wl_55 : (Jvm.Cond.methodLink "ScanPackerLaw" (118 : Nat) ({ cls := "ScanPackerModel", name := "by", desc := "(III)I" } : Jvm.MethodName)) ∈ zW := zW_of 1891 (by decide +kernel) (by decide +kernel)
theorem wl_56 : (Jvm.Cond.instanceMethod ({ cls := "ScanPackerModel", name := "by", desc := "(III)I" } : Jvm.MethodName)) ∈ zW := zW_of 1892 (by decide +kernel) (by decide +kernel)
theorem wl_57 : (Jvm.Cond.selects "ScanPackerModel" ({ cls := "ScanPackerModel", name := "by", desc := "(III)I" } : Jvm.MethodName) ({ cls := "ScanPackerModel", name := "by", desc := "(III)I" } : Jvm.MethodName)) ∈ zW := zW_of 1893 (by decide +kernel) (by decide +kernel)
theorem wl_58 : (Jvm.Cond.methodLink "ScanPackerLaw" (115 : Nat) ({ cls := "ScanPackerLaw", name := "by", desc := "(LScanPacker;III[J)I" } : Jvm.MethodName)) ∈ zW := zW_of 1208 (by decide +kernel) (by decide +kernel)
theorem wl_59 : (Jvm.Cond.static ({ cls := "ScanPackerLaw", name := "by", desc := "(LScanPacker;III[J)I" } : Jvm.MethodName)) ∈ zW := zW_of 1209 (by decide +kernel) (by decide +kernel)
theorem wl_60 : (Jvm.Cond.methodLink "ScanPackerLaw" (121 : Nat) ({ cls := "ScanPackerModel", name := "program", desc := "(II)I" } : Jvm.MethodName)) ∈ zW := zW_of 1895 (by decide +kernel) (by decide +kernel)
theorem wl_61 : (Jvm.Cond.instanceMethod ({ cls := "ScanPackerModel", name := "program", desc := "(II)I" } : Jvm.MethodName)) ∈ zW := zW_of 1896 (by decide +kernel) (by decide +kernel)
theorem wl_62 : (Jvm.Cond.selects "ScanPackerModel" ({ cls := "ScanPackerModel", name := "program", desc := "(II)I" } : Jvm.MethodName) ({ cls := "ScanPackerModel", name := "program", desc := "(II)I" } : Jvm.MethodName)) ∈ zW := zW_of 1897 (by decide +kernel) (by decide +kernel)
theorem wl_63 : (Jvm.Cond.methodLink "ScanPackerLaw" (119 : Nat) ({ cls := "ScanPackerLaw", name := "program", desc := "(LScanPacker;II[J)I" } : Jvm.MethodName)) ∈ zW := zW_of 1219 (by decide +kernel) (by decide +kernel)
theorem wl_64 : (Jvm.Cond.static ({ cls := "ScanPackerLaw", name := "program", desc := "(LScanPacker;II[J)I" } : Jvm.MethodName)) ∈ zW := zW_of 1220 (by decide +kernel) (by decide +kernel)
theorem wl_65 : (Jvm.Cond.methodLink "ScanPackerLaw" (124 : Nat) ({ cls := "ScanPackerModel", name := "order", desc := "(II)I" } : Jvm.MethodName)) ∈ zW := zW_of 1903 (by decide +kernel) (by decide +kernel)
theorem wl_66 : (Jvm.Cond.instanceMethod ({ cls := "ScanPackerModel", name := "order", desc := "(II)I" } : Jvm.MethodName)) ∈ zW := zW_of 1904 (by decide +kernel) (by decide +kernel)
theorem wl_67 : (Jvm.Cond.selects "ScanPackerModel" ({ cls := "ScanPackerModel", name := "order", desc := "(II)I" } : Jvm.MethodName) ({ cls := "ScanPackerModel", name := "order", desc := "(II)I" } : Jvm.MethodName)) ∈ zW := zW_of 1905 (by decide +kernel) (by decide +kernel)
theorem wl_68 : (Jvm.Cond.methodLink "ScanPackerLaw" (122 : Nat) ({ cls := "ScanPackerLaw", name := "order", desc := "(LScanPacker;II[J)I" } : Jvm.MethodName)) ∈ zW := zW_of 1230 (by decide +kernel) (by decide +kernel)
theorem wl_69 : (Jvm.Cond.static ({ cls := "ScanPackerLaw", name := "order", desc := "(LScanPacker;II[J)I" } : Jvm.MethodName)) ∈ zW := zW_of 1231 (by decide +kernel) (by decide +kernel)
theorem wl_70 : (Jvm.Cond.methodLink "ScanPackerLaw" (127 : Nat) ({ cls := "ScanPackerModel", name := "pack", desc := "(I)I" } : Jvm.MethodName)) ∈ zW := zW_of 1919 (by decide +kernel) (by decide +kernel)
theorem wl_71 : (Jvm.Cond.instanceMethod ({ cls := "ScanPackerModel", name := "pack", desc := "(I)I" } : Jvm.MethodName)) ∈ zW := zW_of 1920 (by decide +kernel) (by decide +kernel)
theorem wl_72 : (Jvm.Cond.selects "ScanPackerModel" ({ cls := "ScanPackerModel", name := "pack", desc := "(I)I" } : Jvm.MethodName) ({ cls := "ScanPackerModel", name := "pack", desc := "(I)I" } : Jvm.MethodName)) ∈ zW := zW_of 1921 (by decide +kernel) (by decide +kernel)
theorem wl_73 : (Jvm.Cond.methodLink "ScanPackerLaw" (125 : Nat) ({ cls := "ScanPackerLaw", name := "pack", desc := "(LScanPacker;I[J)I" } : Jvm.MethodName)) ∈ zW := zW_of 1265 (by decide +kernel) (by decide +kernel)
theorem wl_74 : (Jvm.Cond.static ({ cls := "ScanPackerLaw", name := "pack", desc := "(LScanPacker;I[J)I" } : Jvm.MethodName)) ∈ zW := zW_of 1266 (by decide +kernel) (by decide +kernel)
theorem wl_75 : (Jvm.Cond.methodLink "ScanPackerLaw" (128 : Nat) ({ cls := "ScanPacker", name := "put", desc := "(II)I" } : Jvm.MethodName)) ∈ zW := zW_of 714 (by decide +kernel) (by decide +kernel)
theorem wl_76 : (Jvm.Cond.instanceMethod ({ cls := "ScanPacker", name := "put", desc := "(II)I" } : Jvm.MethodName)) ∈ zW := zW_of 715 (by decide +kernel) (by decide +kernel)
theorem wl_77 : (Jvm.Cond.selects "ScanPacker" ({ cls := "ScanPacker", name := "put", desc := "(II)I" } : Jvm.MethodName) ({ cls := "ScanPacker", name := "put", desc := "(II)I" } : Jvm.MethodName)) ∈ zW := zW_of 716 (by decide +kernel) (by decide +kernel)
theorem wl_78 : (Jvm.Cond.methodLink "ScanPackerLaw" (131 : Nat) ({ cls := "ScanPackerModel", name := "put", desc := "(II)I" } : Jvm.MethodName)) ∈ zW := zW_of 1931 (by decide +kernel) (by decide +kernel)
theorem wl_79 : (Jvm.Cond.instanceMethod ({ cls := "ScanPackerModel", name := "put", desc := "(II)I" } : Jvm.MethodName)) ∈ zW := zW_of 1932 (by decide +kernel) (by decide +kernel)
theorem wl_80 : (Jvm.Cond.selects "ScanPackerModel" ({ cls := "ScanPackerModel", name := "put", desc := "(II)I" } : Jvm.MethodName) ({ cls := "ScanPackerModel", name := "put", desc := "(II)I" } : Jvm.MethodName)) ∈ zW := zW_of 1933 (by decide +kernel) (by decide +kernel)
theorem wl_81 : (Jvm.Cond.methodLink "ScanPackerLaw" (132 : Nat) ({ cls := "ScanPacker", name := "shift", desc := "(I)I" } : Jvm.MethodName)) ∈ zW := zW_of 745 (by decide +kernel) (by decide +kernel)
theorem wl_82 : (Jvm.Cond.instanceMethod ({ cls := "ScanPacker", name := "shift", desc := "(I)I" } : Jvm.MethodName)) ∈ zW := zW_of 746 (by decide +kernel) (by decide +kernel)
theorem wl_83 : (Jvm.Cond.selects "ScanPacker" ({ cls := "ScanPacker", name := "shift", desc := "(I)I" } : Jvm.MethodName) ({ cls := "ScanPacker", name := "shift", desc := "(I)I" } : Jvm.MethodName)) ∈ zW := zW_of 747 (by decide +kernel) (by decide +kernel)
theorem wl_84 : (Jvm.Cond.methodLink "ScanPackerLaw" (135 : Nat) ({ cls := "ScanPackerModel", name := "shift", desc := "(I)I" } : Jvm.MethodName)) ∈ zW := zW_of 1951 (by decide +kernel) (by decide +kernel)
theorem wl_85 : (Jvm.Cond.instanceMethod ({ cls := "ScanPackerModel", name := "shift", desc := "(I)I" } : Jvm.MethodName)) ∈ zW := zW_of 1952 (by decide +kernel) (by decide +kernel)
theorem wl_86 : (Jvm.Cond.selects "ScanPackerModel" ({ cls := "ScanPackerModel", name := "shift", desc := "(I)I" } : Jvm.MethodName) ({ cls := "ScanPackerModel", name := "shift", desc := "(I)I" } : Jvm.MethodName)) ∈ zW := zW_of 1953 (by decide +kernel) (by decide +kernel)
theorem wl_87 : (Jvm.Cond.methodLink "ScanPackerLaw" (136 : Nat) ({ cls := "ScanPacker", name := "take", desc := "()I" } : Jvm.MethodName)) ∈ zW := zW_of 755 (by decide +kernel) (by decide +kernel)
theorem wl_88 : (Jvm.Cond.instanceMethod ({ cls := "ScanPacker", name := "take", desc := "()I" } : Jvm.MethodName)) ∈ zW := zW_of 756 (by decide +kernel) (by decide +kernel)
theorem wl_89 : (Jvm.Cond.selects "ScanPacker" ({ cls := "ScanPacker", name := "take", desc := "()I" } : Jvm.MethodName) ({ cls := "ScanPacker", name := "take", desc := "()I" } : Jvm.MethodName)) ∈ zW := zW_of 757 (by decide +kernel) (by decide +kernel)
theorem wl_90 : (Jvm.Cond.methodLink "ScanPackerLaw" (139 : Nat) ({ cls := "ScanPackerModel", name := "take", desc := "()I" } : Jvm.MethodName)) ∈ zW := zW_of 1959 (by decide +kernel) (by decide +kernel)
theorem wl_91 : (Jvm.Cond.instanceMethod ({ cls := "ScanPackerModel", name := "take", desc := "()I" } : Jvm.MethodName)) ∈ zW := zW_of 1960 (by decide +kernel) (by decide +kernel)
theorem wl_92 : (Jvm.Cond.selects "ScanPackerModel" ({ cls := "ScanPackerModel", name := "take", desc := "()I" } : Jvm.MethodName) ({ cls := "ScanPackerModel", name := "take", desc := "()I" } : Jvm.MethodName)) ∈ zW := zW_of 1961 (by decide +kernel) (by decide +kernel)
theorem wl_93 : (Jvm.Cond.methodLink "ScanPackerLaw" (140 : Nat) ({ cls := "ScanPacker", name := "load", desc := "(I)I" } : Jvm.MethodName)) ∈ zW := zW_of 772 (by decide +kernel) (by decide +kernel)
theorem wl_94 : (Jvm.Cond.instanceMethod ({ cls := "ScanPacker", name := "load", desc := "(I)I" } : Jvm.MethodName)) ∈ zW := zW_of 773 (by decide +kernel) (by decide +kernel)
theorem wl_95 : (Jvm.Cond.selects "ScanPacker" ({ cls := "ScanPacker", name := "load", desc := "(I)I" } : Jvm.MethodName) ({ cls := "ScanPacker", name := "load", desc := "(I)I" } : Jvm.MethodName)) ∈ zW := zW_of 774 (by decide +kernel) (by decide +kernel)
theorem wl_96 : (Jvm.Cond.methodLink "ScanPackerLaw" (143 : Nat) ({ cls := "ScanPackerModel", name := "load", desc := "(I)I" } : Jvm.MethodName)) ∈ zW := zW_of 1971 (by decide +kernel) (by decide +kernel)
theorem wl_97 : (Jvm.Cond.instanceMethod ({ cls := "ScanPackerModel", name := "load", desc := "(I)I" } : Jvm.MethodName)) ∈ zW := zW_of 1972 (by decide +kernel) (by decide +kernel)
theorem wl_98 : (Jvm.Cond.selects "ScanPackerModel" ({ cls := "ScanPackerModel", name := "load", desc := "(I)I" } : Jvm.MethodName) ({ cls := "ScanPackerModel", name := "load", desc := "(I)I" } : Jvm.MethodName)) ∈ zW := zW_of 1973 (by decide +kernel) (by decide +kernel)
theorem wl_99 : (Jvm.Cond.methodLink "ScanPackerLaw" (144 : Nat) ({ cls := "ScanPacker", name := "apply", desc := "()I" } : Jvm.MethodName)) ∈ zW := zW_of 791 (by decide +kernel) (by decide +kernel)
theorem wl_100 : (Jvm.Cond.instanceMethod ({ cls := "ScanPacker", name := "apply", desc := "()I" } : Jvm.MethodName)) ∈ zW := zW_of 792 (by decide +kernel) (by decide +kernel)
theorem wl_101 : (Jvm.Cond.selects "ScanPacker" ({ cls := "ScanPacker", name := "apply", desc := "()I" } : Jvm.MethodName) ({ cls := "ScanPacker", name := "apply", desc := "()I" } : Jvm.MethodName)) ∈ zW := zW_of 793 (by decide +kernel) (by decide +kernel)
theorem wl_102 : (Jvm.Cond.methodLink "ScanPackerLaw" (147 : Nat) ({ cls := "ScanPackerModel", name := "apply", desc := "()I" } : Jvm.MethodName)) ∈ zW := zW_of 1980 (by decide +kernel) (by decide +kernel)
theorem wl_103 : (Jvm.Cond.instanceMethod ({ cls := "ScanPackerModel", name := "apply", desc := "()I" } : Jvm.MethodName)) ∈ zW := zW_of 1981 (by decide +kernel) (by decide +kernel)
theorem wl_104 : (Jvm.Cond.selects "ScanPackerModel" ({ cls := "ScanPackerModel", name := "apply", desc := "()I" } : Jvm.MethodName) ({ cls := "ScanPackerModel", name := "apply", desc := "()I" } : Jvm.MethodName)) ∈ zW := zW_of 1982 (by decide +kernel) (by decide +kernel)
theorem wl_105 : (Jvm.Cond.methodLink "ScanPackerLaw" (150 : Nat) ({ cls := "ScanPackerModel", name := "defect", desc := "(I)I" } : Jvm.MethodName)) ∈ zW := zW_of 1988 (by decide +kernel) (by decide +kernel)
theorem wl_106 : (Jvm.Cond.instanceMethod ({ cls := "ScanPackerModel", name := "defect", desc := "(I)I" } : Jvm.MethodName)) ∈ zW := zW_of 1989 (by decide +kernel) (by decide +kernel)
theorem wl_107 : (Jvm.Cond.selects "ScanPackerModel" ({ cls := "ScanPackerModel", name := "defect", desc := "(I)I" } : Jvm.MethodName) ({ cls := "ScanPackerModel", name := "defect", desc := "(I)I" } : Jvm.MethodName)) ∈ zW := zW_of 1990 (by decide +kernel) (by decide +kernel)
theorem wl_108 : (Jvm.Cond.methodLink "ScanPackerLaw" (148 : Nat) ({ cls := "ScanPackerLaw", name := "defect", desc := "(LScanPacker;I[J)I" } : Jvm.MethodName)) ∈ zW := zW_of 1290 (by decide +kernel) (by decide +kernel)
theorem wl_109 : (Jvm.Cond.static ({ cls := "ScanPackerLaw", name := "defect", desc := "(LScanPacker;I[J)I" } : Jvm.MethodName)) ∈ zW := zW_of 1291 (by decide +kernel) (by decide +kernel)
theorem wl_110 : (Jvm.Cond.methodLink "ScanPackerLaw" (151 : Nat) ({ cls := "ScanPacker", name := "fill", desc := "(I)I" } : Jvm.MethodName)) ∈ zW := zW_of 810 (by decide +kernel) (by decide +kernel)
theorem wl_111 : (Jvm.Cond.instanceMethod ({ cls := "ScanPacker", name := "fill", desc := "(I)I" } : Jvm.MethodName)) ∈ zW := zW_of 811 (by decide +kernel) (by decide +kernel)
theorem wl_112 : (Jvm.Cond.selects "ScanPacker" ({ cls := "ScanPacker", name := "fill", desc := "(I)I" } : Jvm.MethodName) ({ cls := "ScanPacker", name := "fill", desc := "(I)I" } : Jvm.MethodName)) ∈ zW := zW_of 812 (by decide +kernel) (by decide +kernel)
theorem wl_113 : (Jvm.Cond.methodLink "ScanPackerLaw" (154 : Nat) ({ cls := "ScanPackerModel", name := "fill", desc := "(I)I" } : Jvm.MethodName)) ∈ zW := zW_of 1992 (by decide +kernel) (by decide +kernel)
theorem wl_114 : (Jvm.Cond.instanceMethod ({ cls := "ScanPackerModel", name := "fill", desc := "(I)I" } : Jvm.MethodName)) ∈ zW := zW_of 1993 (by decide +kernel) (by decide +kernel)
theorem wl_115 : (Jvm.Cond.selects "ScanPackerModel" ({ cls := "ScanPackerModel", name := "fill", desc := "(I)I" } : Jvm.MethodName) ({ cls := "ScanPackerModel", name := "fill", desc := "(I)I" } : Jvm.MethodName)) ∈ zW := zW_of 1994 (by decide +kernel) (by decide +kernel)
theorem wl_116 : (Jvm.Cond.methodLink "ScanPackerLaw" (155 : Nat) ({ cls := "ScanPacker", name := "pick", desc := "(I)I" } : Jvm.MethodName)) ∈ zW := zW_of 814 (by decide +kernel) (by decide +kernel)
theorem wl_117 : (Jvm.Cond.instanceMethod ({ cls := "ScanPacker", name := "pick", desc := "(I)I" } : Jvm.MethodName)) ∈ zW := zW_of 815 (by decide +kernel) (by decide +kernel)
theorem wl_118 : (Jvm.Cond.selects "ScanPacker" ({ cls := "ScanPacker", name := "pick", desc := "(I)I" } : Jvm.MethodName) ({ cls := "ScanPacker", name := "pick", desc := "(I)I" } : Jvm.MethodName)) ∈ zW := zW_of 816 (by decide +kernel) (by decide +kernel)
theorem wl_119 : (Jvm.Cond.methodLink "ScanPackerLaw" (158 : Nat) ({ cls := "ScanPackerModel", name := "pick", desc := "(I)I" } : Jvm.MethodName)) ∈ zW := zW_of 1996 (by decide +kernel) (by decide +kernel)
theorem wl_120 : (Jvm.Cond.instanceMethod ({ cls := "ScanPackerModel", name := "pick", desc := "(I)I" } : Jvm.MethodName)) ∈ zW := zW_of 1997 (by decide +kernel) (by decide +kernel)
theorem wl_121 : (Jvm.Cond.selects "ScanPackerModel" ({ cls := "ScanPackerModel", name := "pick", desc := "(I)I" } : Jvm.MethodName) ({ cls := "ScanPackerModel", name := "pick", desc := "(I)I" } : Jvm.MethodName)) ∈ zW := zW_of 1998 (by decide +kernel) (by decide +kernel)
theorem wl_122 : (Jvm.Cond.methodLink "ScanPackerLaw" (159 : Nat) ({ cls := "ScanPacker", name := "undo", desc := "()I" } : Jvm.MethodName)) ∈ zW := zW_of 831 (by decide +kernel) (by decide +kernel)
theorem wl_123 : (Jvm.Cond.instanceMethod ({ cls := "ScanPacker", name := "undo", desc := "()I" } : Jvm.MethodName)) ∈ zW := zW_of 832 (by decide +kernel) (by decide +kernel)
theorem wl_124 : (Jvm.Cond.selects "ScanPacker" ({ cls := "ScanPacker", name := "undo", desc := "()I" } : Jvm.MethodName) ({ cls := "ScanPacker", name := "undo", desc := "()I" } : Jvm.MethodName)) ∈ zW := zW_of 833 (by decide +kernel) (by decide +kernel)
theorem wl_125 : (Jvm.Cond.methodLink "ScanPackerLaw" (162 : Nat) ({ cls := "ScanPackerModel", name := "undo", desc := "()I" } : Jvm.MethodName)) ∈ zW := zW_of 2004 (by decide +kernel) (by decide +kernel)
theorem wl_126 : (Jvm.Cond.instanceMethod ({ cls := "ScanPackerModel", name := "undo", desc := "()I" } : Jvm.MethodName)) ∈ zW := zW_of 2005 (by decide +kernel) (by decide +kernel)
theorem wl_127 : (Jvm.Cond.selects "ScanPackerModel" ({ cls := "ScanPackerModel", name := "undo", desc := "()I" } : Jvm.MethodName) ({ cls := "ScanPackerModel", name := "undo", desc := "()I" } : Jvm.MethodName)) ∈ zW := zW_of 2006 (by decide +kernel) (by decide +kernel)
theorem wl_128 : (Jvm.Cond.methodLink "ScanPackerLaw" (163 : Nat) ({ cls := "ScanPacker", name := "note", desc := "(III)I" } : Jvm.MethodName)) ∈ zW := zW_of 839 (by decide +kernel) (by decide +kernel)
theorem wl_129 : (Jvm.Cond.instanceMethod ({ cls := "ScanPacker", name := "note", desc := "(III)I" } : Jvm.MethodName)) ∈ zW := zW_of 840 (by decide +kernel) (by decide +kernel)
theorem wl_130 : (Jvm.Cond.selects "ScanPacker" ({ cls := "ScanPacker", name := "note", desc := "(III)I" } : Jvm.MethodName) ({ cls := "ScanPacker", name := "note", desc := "(III)I" } : Jvm.MethodName)) ∈ zW := zW_of 841 (by decide +kernel) (by decide +kernel)
theorem wl_131 : (Jvm.Cond.methodLink "ScanPackerLaw" (166 : Nat) ({ cls := "ScanPackerModel", name := "note", desc := "(III)I" } : Jvm.MethodName)) ∈ zW := zW_of 2008 (by decide +kernel) (by decide +kernel)
theorem wl_132 : (Jvm.Cond.instanceMethod ({ cls := "ScanPackerModel", name := "note", desc := "(III)I" } : Jvm.MethodName)) ∈ zW := zW_of 2009 (by decide +kernel) (by decide +kernel)
theorem wl_133 : (Jvm.Cond.selects "ScanPackerModel" ({ cls := "ScanPackerModel", name := "note", desc := "(III)I" } : Jvm.MethodName) ({ cls := "ScanPackerModel", name := "note", desc := "(III)I" } : Jvm.MethodName)) ∈ zW := zW_of 2010 (by decide +kernel) (by decide +kernel)
theorem wl_134 : (Jvm.Cond.methodLink "ScanPackerLaw" (169 : Nat) ({ cls := "ScanPackerModel", name := "fits", desc := "(I)I" } : Jvm.MethodName)) ∈ zW := zW_of 2016 (by decide +kernel) (by decide +kernel)
theorem wl_135 : (Jvm.Cond.instanceMethod ({ cls := "ScanPackerModel", name := "fits", desc := "(I)I" } : Jvm.MethodName)) ∈ zW := zW_of 2017 (by decide +kernel) (by decide +kernel)
theorem wl_136 : (Jvm.Cond.selects "ScanPackerModel" ({ cls := "ScanPackerModel", name := "fits", desc := "(I)I" } : Jvm.MethodName) ({ cls := "ScanPackerModel", name := "fits", desc := "(I)I" } : Jvm.MethodName)) ∈ zW := zW_of 2018 (by decide +kernel) (by decide +kernel)
theorem wl_137 : (Jvm.Cond.methodLink "ScanPackerLaw" (167 : Nat) ({ cls := "ScanPackerLaw", name := "fits", desc := "(LScanPacker;I[J)I" } : Jvm.MethodName)) ∈ zW := zW_of 1297 (by decide +kernel) (by decide +kernel)
theorem wl_138 : (Jvm.Cond.static ({ cls := "ScanPackerLaw", name := "fits", desc := "(LScanPacker;I[J)I" } : Jvm.MethodName)) ∈ zW := zW_of 1298 (by decide +kernel) (by decide +kernel)
theorem wl_139 : (Jvm.Cond.methodLink "ScanPackerLaw" (172 : Nat) ({ cls := "ScanPackerModel", name := "look", desc := "(I)I" } : Jvm.MethodName)) ∈ zW := zW_of 2024 (by decide +kernel) (by decide +kernel)
theorem wl_140 : (Jvm.Cond.instanceMethod ({ cls := "ScanPackerModel", name := "look", desc := "(I)I" } : Jvm.MethodName)) ∈ zW := zW_of 2025 (by decide +kernel) (by decide +kernel)
theorem wl_141 : (Jvm.Cond.selects "ScanPackerModel" ({ cls := "ScanPackerModel", name := "look", desc := "(I)I" } : Jvm.MethodName) ({ cls := "ScanPackerModel", name := "look", desc := "(I)I" } : Jvm.MethodName)) ∈ zW := zW_of 2026 (by decide +kernel) (by decide +kernel)
theorem wl_142 : (Jvm.Cond.methodLink "ScanPackerLaw" (170 : Nat) ({ cls := "ScanPackerLaw", name := "look", desc := "(LScanPacker;I[J)I" } : Jvm.MethodName)) ∈ zW := zW_of 1313 (by decide +kernel) (by decide +kernel)
theorem wl_143 : (Jvm.Cond.static ({ cls := "ScanPackerLaw", name := "look", desc := "(LScanPacker;I[J)I" } : Jvm.MethodName)) ∈ zW := zW_of 1314 (by decide +kernel) (by decide +kernel)
theorem wl_144 : (Jvm.Cond.methodLink "ScanPackerLaw" (173 : Nat) ({ cls := "ScanPacker", name := "forget", desc := "()V" } : Jvm.MethodName)) ∈ zW := zW_of 853 (by decide +kernel) (by decide +kernel)
theorem wl_145 : (Jvm.Cond.instanceMethod ({ cls := "ScanPacker", name := "forget", desc := "()V" } : Jvm.MethodName)) ∈ zW := zW_of 854 (by decide +kernel) (by decide +kernel)
theorem wl_146 : (Jvm.Cond.selects "ScanPacker" ({ cls := "ScanPacker", name := "forget", desc := "()V" } : Jvm.MethodName) ({ cls := "ScanPacker", name := "forget", desc := "()V" } : Jvm.MethodName)) ∈ zW := zW_of 855 (by decide +kernel) (by decide +kernel)
theorem wl_147 : (Jvm.Cond.methodLink "ScanPackerLaw" (176 : Nat) ({ cls := "ScanPackerModel", name := "forget", desc := "()V" } : Jvm.MethodName)) ∈ zW := zW_of 2012 (by decide +kernel) (by decide +kernel)
theorem wl_148 : (Jvm.Cond.instanceMethod ({ cls := "ScanPackerModel", name := "forget", desc := "()V" } : Jvm.MethodName)) ∈ zW := zW_of 2013 (by decide +kernel) (by decide +kernel)
theorem wl_149 : (Jvm.Cond.selects "ScanPackerModel" ({ cls := "ScanPackerModel", name := "forget", desc := "()V" } : Jvm.MethodName) ({ cls := "ScanPackerModel", name := "forget", desc := "()V" } : Jvm.MethodName)) ∈ zW := zW_of 2014 (by decide +kernel) (by decide +kernel)
theorem wl_150 : (Jvm.Cond.methodLink "ScanPackerLaw" (179 : Nat) ({ cls := "ScanPackerModel", name := "behind", desc := "(I)I" } : Jvm.MethodName)) ∈ zW := zW_of 2036 (by decide +kernel) (by decide +kernel)
theorem wl_151 : (Jvm.Cond.instanceMethod ({ cls := "ScanPackerModel", name := "behind", desc := "(I)I" } : Jvm.MethodName)) ∈ zW := zW_of 2037 (by decide +kernel) (by decide +kernel)
theorem wl_152 : (Jvm.Cond.selects "ScanPackerModel" ({ cls := "ScanPackerModel", name := "behind", desc := "(I)I" } : Jvm.MethodName) ({ cls := "ScanPackerModel", name := "behind", desc := "(I)I" } : Jvm.MethodName)) ∈ zW := zW_of 2038 (by decide +kernel) (by decide +kernel)
theorem wl_153 : (Jvm.Cond.methodLink "ScanPackerLaw" (177 : Nat) ({ cls := "ScanPackerLaw", name := "behind", desc := "(LScanPacker;I[J)I" } : Jvm.MethodName)) ∈ zW := zW_of 1330 (by decide +kernel) (by decide +kernel)
theorem wl_154 : (Jvm.Cond.static ({ cls := "ScanPackerLaw", name := "behind", desc := "(LScanPacker;I[J)I" } : Jvm.MethodName)) ∈ zW := zW_of 1331 (by decide +kernel) (by decide +kernel)
theorem wl_155 : (Jvm.Cond.methodLink "ScanPackerLaw" (180 : Nat) ({ cls := "ScanPacker", name := "back", desc := "()I" } : Jvm.MethodName)) ∈ zW := zW_of 857 (by decide +kernel) (by decide +kernel)
theorem wl_156 : (Jvm.Cond.instanceMethod ({ cls := "ScanPacker", name := "back", desc := "()I" } : Jvm.MethodName)) ∈ zW := zW_of 858 (by decide +kernel) (by decide +kernel)
theorem wl_157 : (Jvm.Cond.selects "ScanPacker" ({ cls := "ScanPacker", name := "back", desc := "()I" } : Jvm.MethodName) ({ cls := "ScanPacker", name := "back", desc := "()I" } : Jvm.MethodName)) ∈ zW := zW_of 859 (by decide +kernel) (by decide +kernel)
theorem wl_158 : (Jvm.Cond.methodLink "ScanPackerLaw" (183 : Nat) ({ cls := "ScanPackerModel", name := "back", desc := "()I" } : Jvm.MethodName)) ∈ zW := zW_of 2040 (by decide +kernel) (by decide +kernel)
theorem wl_159 : (Jvm.Cond.instanceMethod ({ cls := "ScanPackerModel", name := "back", desc := "()I" } : Jvm.MethodName)) ∈ zW := zW_of 2041 (by decide +kernel) (by decide +kernel)
theorem wl_160 : (Jvm.Cond.selects "ScanPackerModel" ({ cls := "ScanPackerModel", name := "back", desc := "()I" } : Jvm.MethodName) ({ cls := "ScanPackerModel", name := "back", desc := "()I" } : Jvm.MethodName)) ∈ zW := zW_of 2042 (by decide +kernel) (by decide +kernel)
theorem wl_161 : (Jvm.Cond.methodLink "ScanPackerLaw" (186 : Nat) ({ cls := "ScanPackerModel", name := "tells", desc := "(I)I" } : Jvm.MethodName)) ∈ zW := zW_of 2044 (by decide +kernel) (by decide +kernel)
theorem wl_162 : (Jvm.Cond.instanceMethod ({ cls := "ScanPackerModel", name := "tells", desc := "(I)I" } : Jvm.MethodName)) ∈ zW := zW_of 2045 (by decide +kernel) (by decide +kernel)
theorem wl_163 : (Jvm.Cond.selects "ScanPackerModel" ({ cls := "ScanPackerModel", name := "tells", desc := "(I)I" } : Jvm.MethodName) ({ cls := "ScanPackerModel", name := "tells", desc := "(I)I" } : Jvm.MethodName)) ∈ zW := zW_of 2046 (by decide +kernel) (by decide +kernel)
theorem wl_164 : (Jvm.Cond.methodLink "ScanPackerLaw" (184 : Nat) ({ cls := "ScanPackerLaw", name := "tells", desc := "(LScanPacker;I[J)I" } : Jvm.MethodName)) ∈ zW := zW_of 1337 (by decide +kernel) (by decide +kernel)
theorem wl_165 : (Jvm.Cond.static ({ cls := "ScanPackerLaw", name := "tells", desc := "(LScanPacker;I[J)I" } : Jvm.MethodName)) ∈ zW := zW_of 1338 (by decide +kernel) (by decide +kernel)
theorem wl_166 : (Jvm.Cond.methodLink "ScanPackerLaw" (189 : Nat) ({ cls := "ScanPackerModel", name := "years", desc := "(III)I" } : Jvm.MethodName)) ∈ zW := zW_of 2048 (by decide +kernel) (by decide +kernel)
theorem wl_167 : (Jvm.Cond.instanceMethod ({ cls := "ScanPackerModel", name := "years", desc := "(III)I" } : Jvm.MethodName)) ∈ zW := zW_of 2049 (by decide +kernel) (by decide +kernel)
theorem wl_168 : (Jvm.Cond.selects "ScanPackerModel" ({ cls := "ScanPackerModel", name := "years", desc := "(III)I" } : Jvm.MethodName) ({ cls := "ScanPackerModel", name := "years", desc := "(III)I" } : Jvm.MethodName)) ∈ zW := zW_of 2050 (by decide +kernel) (by decide +kernel)
theorem wl_169 : (Jvm.Cond.methodLink "ScanPackerLaw" (187 : Nat) ({ cls := "ScanPackerLaw", name := "years", desc := "(LScanPacker;III[J)I" } : Jvm.MethodName)) ∈ zW := zW_of 1348 (by decide +kernel) (by decide +kernel)
theorem wl_170 : (Jvm.Cond.static ({ cls := "ScanPackerLaw", name := "years", desc := "(LScanPacker;III[J)I" } : Jvm.MethodName)) ∈ zW := zW_of 1349 (by decide +kernel) (by decide +kernel)
theorem wl_171 : (Jvm.Cond.methodLink "ScanPackerLaw" (190 : Nat) ({ cls := "ScanPacker", name := "image", desc := "()V" } : Jvm.MethodName)) ∈ zW := zW_of 862 (by decide +kernel) (by decide +kernel)
theorem wl_172 : (Jvm.Cond.instanceMethod ({ cls := "ScanPacker", name := "image", desc := "()V" } : Jvm.MethodName)) ∈ zW := zW_of 863 (by decide +kernel) (by decide +kernel)
theorem wl_173 : (Jvm.Cond.selects "ScanPacker" ({ cls := "ScanPacker", name := "image", desc := "()V" } : Jvm.MethodName) ({ cls := "ScanPacker", name := "image", desc := "()V" } : Jvm.MethodName)) ∈ zW := zW_of 864 (by decide +kernel) (by decide +kernel)
theorem wl_174 : (Jvm.Cond.methodLink "ScanPackerLaw" (193 : Nat) ({ cls := "ScanPackerModel", name := "image", desc := "()V" } : Jvm.MethodName)) ∈ zW := zW_of 2064 (by decide +kernel) (by decide +kernel)
theorem wl_175 : (Jvm.Cond.instanceMethod ({ cls := "ScanPackerModel", name := "image", desc := "()V" } : Jvm.MethodName)) ∈ zW := zW_of 2065 (by decide +kernel) (by decide +kernel)
theorem wl_176 : (Jvm.Cond.selects "ScanPackerModel" ({ cls := "ScanPackerModel", name := "image", desc := "()V" } : Jvm.MethodName) ({ cls := "ScanPackerModel", name := "image", desc := "()V" } : Jvm.MethodName)) ∈ zW := zW_of 2066 (by decide +kernel) (by decide +kernel)
theorem wl_177 : (Jvm.Cond.methodLink "ScanPackerLaw" (194 : Nat) ({ cls := "ScanPacker", name := "restore", desc := "()Z" } : Jvm.MethodName)) ∈ zW := zW_of 870 (by decide +kernel) (by decide +kernel)
theorem wl_178 : (Jvm.Cond.instanceMethod ({ cls := "ScanPacker", name := "restore", desc := "()Z" } : Jvm.MethodName)) ∈ zW := zW_of 871 (by decide +kernel) (by decide +kernel)
theorem wl_179 : (Jvm.Cond.selects "ScanPacker" ({ cls := "ScanPacker", name := "restore", desc := "()Z" } : Jvm.MethodName) ({ cls := "ScanPacker", name := "restore", desc := "()Z" } : Jvm.MethodName)) ∈ zW := zW_of 872 (by decide +kernel) (by decide +kernel)
theorem wl_180 : (Jvm.Cond.methodLink "ScanPackerLaw" (198 : Nat) ({ cls := "ScanPackerModel", name := "restore", desc := "()Z" } : Jvm.MethodName)) ∈ zW := zW_of 2068 (by decide +kernel) (by decide +kernel)
theorem wl_181 : (Jvm.Cond.instanceMethod ({ cls := "ScanPackerModel", name := "restore", desc := "()Z" } : Jvm.MethodName)) ∈ zW := zW_of 2069 (by decide +kernel) (by decide +kernel)
theorem wl_182 : (Jvm.Cond.selects "ScanPackerModel" ({ cls := "ScanPackerModel", name := "restore", desc := "()Z" } : Jvm.MethodName) ({ cls := "ScanPackerModel", name := "restore", desc := "()Z" } : Jvm.MethodName)) ∈ zW := zW_of 2070 (by decide +kernel) (by decide +kernel)
def m_law : zM := (({ cls := "ScanPackerLaw", name := "law", desc := "([I)Z" } : Jvm.MethodName), code, 7, (Option.some Jvm.ClassFile.FieldType.boolean), [], 31)
set_option maxRecDepth 20000 in
set_option maxHeartbeats 4000000 in
theorem k_law_a0 {l : Launch} {X : zX} (hl : l.stackTraces = false) {h : zH} {v4 : Int32} : zGl l m_law X 3 18 ((
        zg (zb (v4 + 1) X.1) <|
          zg (zb (v4 + 2) X.1) <|
          zg (zb (v4 + 3) X.1) <|
          zg (zb (v4 + 4) X.1) <|
          zg (zb (v4 + 5) X.1) <|
          (f_Main_feed h (X.2 (v4 + 1).toNatClampNeg) (X.2 (v4 + 2).toNatClampNeg) (X.2 (v4 + 3).toNatClampNeg) (X.2 (v4 + 4).toNatClampNeg) (X.2 (v4 + 5).toNatClampNeg)).bind fun x7 =>
          zg (zb (v4 + 1) X.1) <|
          zg (zb (v4 + 2) X.1) <|
          zg (zb (v4 + 3) X.1) <|
          zg (zb (v4 + 4) X.1) <|
          zg (zb (v4 + 5) X.1) <|
          (f_Mod_feed x7.2 (X.2 (v4 + 1).toNatClampNeg) (X.2 (v4 + 2).toNatClampNeg) (X.2 (v4 + 3).toNatClampNeg) (X.2 (v4 + 4).toNatClampNeg) (X.2 (v4 + 5).toNatClampNeg)).bind fun x13 =>
          if x7.1 = x13.1 then (
          some (.inl ((v4 + 6), x13.2))) else (
          none)) : Option ((Int32 × zH) ⊕ zH)) (188, [some (zr (some (200, zSO))), some (zr (some (0, 0))), some (zr (some (11, 333))), some (zr (some (106, 380))), some (zi v4), none, none], [], h) (Sum.elim (fun s : Int32 × zH => .inl (23, [some (zr (some (200, zSO))), some (zr (some (0, 0))), some (zr (some (11, 333))), some (zr (some (106, 380))), some (zi s.1), none, none], [], s.2)) (fun y : zH => .inl (1705, [none, none, none, none, none, none, none], [], y))) := by
  refine zG_run t_Law [(.aload_n 1, 0, 0), (.aload_n 0, 0, 0), (.iload 4, 0, 0), (.iconst 1, 0, 0), (.iadd, 0, 0)] (194, [some (zr (some (200, zSO))), some (zr (some (0, 0))), some (zr (some (11, 333))), some (zr (some (106, 380))), some (zi v4), none, none], [zi (v4 + 1), zr (some (200, zSO)), zr (some (0, 0))], h) (by decide +kernel) rfl ?_
  refine zG_scr (by decide +kernel) fun hb2 => ?_
  refine zG_run t_Law [(.aload_n 0, 0, 0), (.iload 4, 0, 0), (.iconst 2, 0, 0), (.iadd, 0, 0)] (200, [some (zr (some (200, zSO))), some (zr (some (0, 0))), some (zr (some (11, 333))), some (zr (some (106, 380))), some (zi v4), none, none], [zi (v4 + 2), zr (some (200, zSO)), zi (X.2 (v4 + 1).toNatClampNeg), zr (some (0, 0))], h) (by decide +kernel) rfl ?_
  refine zG_scr (by decide +kernel) fun hb3 => ?_
  refine zG_run t_Law [(.aload_n 0, 0, 0), (.iload 4, 0, 0), (.iconst 3, 0, 0), (.iadd, 0, 0)] (206, [some (zr (some (200, zSO))), some (zr (some (0, 0))), some (zr (some (11, 333))), some (zr (some (106, 380))), some (zi v4), none, none], [zi (v4 + 3), zr (some (200, zSO)), zi (X.2 (v4 + 2).toNatClampNeg), zi (X.2 (v4 + 1).toNatClampNeg), zr (some (0, 0))], h) (by decide +kernel) rfl ?_
  refine zG_scr (by decide +kernel) fun hb4 => ?_
  refine zG_run t_Law [(.aload_n 0, 0, 0), (.iload 4, 0, 0), (.iconst 4, 0, 0), (.iadd, 0, 0)] (212, [some (zr (some (200, zSO))), some (zr (some (0, 0))), some (zr (some (11, 333))), some (zr (some (106, 380))), some (zi v4), none, none], [zi (v4 + 4), zr (some (200, zSO)), zi (X.2 (v4 + 3).toNatClampNeg), zi (X.2 (v4 + 2).toNatClampNeg), zi (X.2 (v4 + 1).toNatClampNeg), zr (some (0, 0))], h) (by decide +kernel) rfl ?_
  refine zG_scr (by decide +kernel) fun hb5 => ?_
  refine zG_run t_Law [(.aload_n 0, 0, 0), (.iload 4, 0, 0), (.iconst 5, 0, 0), (.iadd, 0, 0)] (218, [some (zr (some (200, zSO))), some (zr (some (0, 0))), some (zr (some (11, 333))), some (zr (some (106, 380))), some (zi v4), none, none], [zi (v4 + 5), zr (some (200, zSO)), zi (X.2 (v4 + 4).toNatClampNeg), zi (X.2 (v4 + 3).toNatClampNeg), zi (X.2 (v4 + 2).toNatClampNeg), zi (X.2 (v4 + 1).toNatClampNeg), zr (some (0, 0))], h) (by decide +kernel) rfl ?_
  refine zG_scr (by decide +kernel) fun hb6 => ?_
  refine zG_callV (idx := 74) (R := (fun a => (some (zi a.1), a.2))) (as := [zi (X.2 (v4 + 1).toNatClampNeg), zi (X.2 (v4 + 2).toNatClampNeg), zi (X.2 (v4 + 3).toNatClampNeg), zi (X.2 (v4 + 4).toNatClampNeg), zi (X.2 (v4 + 5).toNatClampNeg)]) (rest := []) (n := 5) (fun a ha => c_Main_feed hl ha) (by decide +kernel) ⟨ok_Main_feed, by decide, by decide +kernel⟩ rfl wl_0 wl_1 wl_2 (by decide) rfl rfl rfl (Nat.le_of_ble_eq_true rfl) fun x7 => ?_
  refine zG_run t_Law [(.aload_n 2, 0, 0), (.aload_n 0, 0, 0), (.iload 4, 0, 0), (.iconst 1, 0, 0), (.iadd, 0, 0)] (228, [some (zr (some (200, zSO))), some (zr (some (0, 0))), some (zr (some (11, 333))), some (zr (some (106, 380))), some (zi v4), none, none], [zi (v4 + 1), zr (some (200, zSO)), zr (some (11, 333)), zi x7.1], x7.2) (by decide +kernel) rfl ?_
  refine zG_scr (by decide +kernel) fun hb8 => ?_
  refine zG_run t_Law [(.aload_n 0, 0, 0), (.iload 4, 0, 0), (.iconst 2, 0, 0), (.iadd, 0, 0)] (234, [some (zr (some (200, zSO))), some (zr (some (0, 0))), some (zr (some (11, 333))), some (zr (some (106, 380))), some (zi v4), none, none], [zi (v4 + 2), zr (some (200, zSO)), zi (X.2 (v4 + 1).toNatClampNeg), zr (some (11, 333)), zi x7.1], x7.2) (by decide +kernel) rfl ?_
  refine zG_scr (by decide +kernel) fun hb9 => ?_
  refine zG_run t_Law [(.aload_n 0, 0, 0), (.iload 4, 0, 0), (.iconst 3, 0, 0), (.iadd, 0, 0)] (240, [some (zr (some (200, zSO))), some (zr (some (0, 0))), some (zr (some (11, 333))), some (zr (some (106, 380))), some (zi v4), none, none], [zi (v4 + 3), zr (some (200, zSO)), zi (X.2 (v4 + 2).toNatClampNeg), zi (X.2 (v4 + 1).toNatClampNeg), zr (some (11, 333)), zi x7.1], x7.2) (by decide +kernel) rfl ?_
  refine zG_scr (by decide +kernel) fun hb10 => ?_
  refine zG_run t_Law [(.aload_n 0, 0, 0), (.iload 4, 0, 0), (.iconst 4, 0, 0), (.iadd, 0, 0)] (246, [some (zr (some (200, zSO))), some (zr (some (0, 0))), some (zr (some (11, 333))), some (zr (some (106, 380))), some (zi v4), none, none], [zi (v4 + 4), zr (some (200, zSO)), zi (X.2 (v4 + 3).toNatClampNeg), zi (X.2 (v4 + 2).toNatClampNeg), zi (X.2 (v4 + 1).toNatClampNeg), zr (some (11, 333)), zi x7.1], x7.2) (by decide +kernel) rfl ?_
  refine zG_scr (by decide +kernel) fun hb11 => ?_
  refine zG_run t_Law [(.aload_n 0, 0, 0), (.iload 4, 0, 0), (.iconst 5, 0, 0), (.iadd, 0, 0)] (252, [some (zr (some (200, zSO))), some (zr (some (0, 0))), some (zr (some (11, 333))), some (zr (some (106, 380))), some (zi v4), none, none], [zi (v4 + 5), zr (some (200, zSO)), zi (X.2 (v4 + 4).toNatClampNeg), zi (X.2 (v4 + 3).toNatClampNeg), zi (X.2 (v4 + 2).toNatClampNeg), zi (X.2 (v4 + 1).toNatClampNeg), zr (some (11, 333)), zi x7.1], x7.2) (by decide +kernel) rfl ?_
  refine zG_scr (by decide +kernel) fun hb12 => ?_
  refine zG_callV (idx := 78) (R := (fun a => (some (zi a.1), a.2))) (as := [zi (X.2 (v4 + 1).toNatClampNeg), zi (X.2 (v4 + 2).toNatClampNeg), zi (X.2 (v4 + 3).toNatClampNeg), zi (X.2 (v4 + 4).toNatClampNeg), zi (X.2 (v4 + 5).toNatClampNeg)]) (rest := [zi x7.1]) (n := 5) (fun a ha => c_Mod_feed hl ha) (by decide +kernel) ⟨ok_Mod_feed, by decide, by decide +kernel⟩ rfl wl_3 wl_4 wl_5 (by decide) rfl rfl rfl (Nat.le_of_ble_eq_true rfl) fun x13 => ?_
  refine zG_icmp (op := .eq) (off := 1443) (tgt := 1699) (by decide +kernel) rfl Iff.rfl (fun c14 => ?_) (fun c14 => ?_)
  · refine zG_run t_Law [(.iinc 4 6, 0, 0), (.goto (-1679), 0, 0)] (23, [some (zr (some (200, zSO))), some (zr (some (0, 0))), some (zr (some (11, 333))), some (zr (some (106, 380))), some (zi (v4 + 6)), none, none], [], x13.2) (by decide +kernel) rfl ?_
    exact zG_end (L' := [some (zr (some (200, zSO))), some (zr (some (0, 0))), some (zr (some (11, 333))), some (zr (some (106, 380))), some (zi (v4 + 6)), none, none]) rfl (And.intro rfl (And.intro rfl (And.intro rfl (And.intro rfl (And.intro rfl trivial)))))
  · exact zG_none
set_option maxRecDepth 20000 in
set_option maxHeartbeats 4000000 in
theorem k_law_a1 {l : Launch} {X : zX} (hl : l.stackTraces = false) {h : zH} {v4 : Int32} : zGl l m_law X 3 18 ((
          zg (zb (v4 + 1) X.1) <|
            (f_L_net h (X.2 (v4 + 1).toNatClampNeg)).bind fun x17 =>
            zg (zb (v4 + 1) X.1) <|
            (f_Mod_net x17.2 (X.2 (v4 + 1).toNatClampNeg)).bind fun x19 =>
            (f_Mod_thrown x19.2).bind fun x20 =>
            if x20 = x17.1 then (
            if ¬ x17.1 = 0 then (
              some (.inl ((v4 + 6), x19.2))) else (
              if (x19.2.2.1 380 0) = x19.1.toInt64 then (
                some (.inl ((v4 + 6), x19.2))) else (
                none))) else (
            none)) : Option ((Int32 × zH) ⊕ zH)) (261, [some (zr (some (200, zSO))), some (zr (some (0, 0))), some (zr (some (11, 333))), some (zr (some (106, 380))), some (zi v4), none, none], [], h) (Sum.elim (fun s : Int32 × zH => .inl (23, [some (zr (some (200, zSO))), some (zr (some (0, 0))), some (zr (some (11, 333))), some (zr (some (106, 380))), some (zi s.1), none, none], [], s.2)) (fun y : zH => .inl (1705, [none, none, none, none, none, none, none], [], y))) := by
  refine zG_run t_Law [(.aload_n 1, 0, 0), (.aload_n 0, 0, 0), (.iload 4, 0, 0), (.iconst 1, 0, 0), (.iadd, 0, 0)] (267, [some (zr (some (200, zSO))), some (zr (some (0, 0))), some (zr (some (11, 333))), some (zr (some (106, 380))), some (zi v4), none, none], [zi (v4 + 1), zr (some (200, zSO)), zr (some (0, 0))], h) (by decide +kernel) rfl ?_
  refine zG_scr (by decide +kernel) fun hb16 => ?_
  refine zG_run t_Law [(.aload_n 3, 0, 0)] (269, [some (zr (some (200, zSO))), some (zr (some (0, 0))), some (zr (some (11, 333))), some (zr (some (106, 380))), some (zi v4), none, none], [zr (some (106, 380)), zi (X.2 (v4 + 1).toNatClampNeg), zr (some (0, 0))], h) (by decide +kernel) rfl ?_
  refine zG_mono (bc' := 0 + 1) (bs' := 0 + 6) (by decide) (by decide) ?_
  refine zG_callSX (idx := 79) (as := [zr (some (0, 0)), zi (X.2 (v4 + 1).toNatClampNeg), zr (some (106, 380))]) (rest := []) (n := 3) (fun a ha => c_L_net hl ha) (by decide +kernel) ⟨ok_L_net, by decide, by decide +kernel⟩ rfl wl_12 wl_13 rfl rfl (Nat.le_of_ble_eq_true rfl) fun x17 => ?_
  refine zG_run t_Law [(.istore 5, 0, 0), (.aload_n 2, 0, 0), (.aload_n 0, 0, 0), (.iload 4, 0, 0), (.iconst 1, 0, 0), (.iadd, 0, 0)] (280, [some (zr (some (200, zSO))), some (zr (some (0, 0))), some (zr (some (11, 333))), some (zr (some (106, 380))), some (zi v4), some (zi x17.1), none], [zi (v4 + 1), zr (some (200, zSO)), zr (some (11, 333))], x17.2) (by decide +kernel) rfl ?_
  refine zG_scr (by decide +kernel) fun hb18 => ?_
  refine zG_callV (idx := 84) (R := (fun a => (some (zi a.1), a.2))) (as := [zi (X.2 (v4 + 1).toNatClampNeg)]) (rest := []) (n := 1) (fun a ha => c_Mod_net hl ha) (by decide +kernel) ⟨ok_Mod_net, by decide, by decide +kernel⟩ rfl wl_6 wl_7 wl_8 (by decide) rfl rfl rfl (Nat.le_of_ble_eq_true rfl) fun x19 => ?_
  refine zG_run t_Law [(.istore 6, 0, 0), (.aload_n 2, 0, 0)] (287, [some (zr (some (200, zSO))), some (zr (some (0, 0))), some (zr (some (11, 333))), some (zr (some (106, 380))), some (zi v4), some (zi x17.1), some (zi x19.1)], [zr (some (11, 333))], x19.2) (by decide +kernel) rfl ?_
  refine zG_callV (idx := 85) (R := (fun a => (some (zi a), x19.2))) (as := []) (rest := []) (n := 0) (fun a ha => c_Mod_thrown hl ha) (by decide +kernel) ⟨ok_Mod_thrown, by decide, by decide +kernel⟩ rfl wl_9 wl_10 wl_11 (by decide) rfl rfl rfl (Nat.le_of_ble_eq_true rfl) fun x20 => ?_
  refine zG_run t_Law [(.iload 5, 0, 0)] (292, [some (zr (some (200, zSO))), some (zr (some (0, 0))), some (zr (some (11, 333))), some (zr (some (106, 380))), some (zi v4), some (zi x17.1), some (zi x19.1)], [zi x17.1, zi x20], x19.2) (by decide +kernel) rfl ?_
  refine zG_icmp (op := .eq) (off := 5) (tgt := 297) (by decide +kernel) rfl Iff.rfl (fun c23 => ?_) (fun c23 => ?_)
  · refine zG_run t_Law [(.iload 5, 0, 0)] (299, [some (zr (some (200, zSO))), some (zr (some (0, 0))), some (zr (some (11, 333))), some (zr (some (106, 380))), some (zi v4), some (zi x17.1), some (zi x19.1)], [zi x17.1], x19.2) (by decide +kernel) rfl ?_
    refine zG_if (op := .ne) (off := 15) (tgt := 314) (by decide +kernel) rfl Iff.rfl (fun c22 => ?_) (fun c22 => ?_)
    · refine zG_run t_Law [(.goto 1385, 0, 0), (.iinc 4 6, 0, 0), (.goto (-1679), 0, 0)] (23, [some (zr (some (200, zSO))), some (zr (some (0, 0))), some (zr (some (11, 333))), some (zr (some (106, 380))), some (zi (v4 + 6)), some (zi x17.1), some (zi x19.1)], [], x19.2) (by decide +kernel) rfl ?_
      exact zG_end (L' := [some (zr (some (200, zSO))), some (zr (some (0, 0))), some (zr (some (11, 333))), some (zr (some (106, 380))), some (zi (v4 + 6)), none, none]) rfl (And.intro rfl (And.intro rfl (And.intro rfl (And.intro rfl (And.intro rfl trivial)))))
    · refine zG_run t_Law [(.aload_n 3, 0, 0), (.iconst 0, 0, 0)] (304, [some (zr (some (200, zSO))), some (zr (some (0, 0))), some (zr (some (11, 333))), some (zr (some (106, 380))), some (zi v4), some (zi x17.1), some (zi x19.1)], [zi 0, zr (some (106, 380))], x19.2) (by decide +kernel) rfl ?_
      refine zG_aldc (v := zl (x19.2.2.1 380 0)) rfl (by decide +kernel) (by decide +kernel) rfl ?_
      refine zG_run t_Law [(.iload 6, 0, 0), (.i2l, 0, 0), (.lcmp, 0, 0)] (309, [some (zr (some (200, zSO))), some (zr (some (0, 0))), some (zr (some (11, 333))), some (zr (some (106, 380))), some (zi v4), some (zi x17.1), some (zi x19.1)], [zi (lg_cmp (x19.2.2.1 380 0) x19.1.toInt64)], x19.2) (by decide +kernel) rfl ?_
      refine zG_if (op := .eq) (off := 5) (tgt := 314) (by decide +kernel) rfl zcmp0 (fun c21 => ?_) (fun c21 => ?_)
      · refine zG_run t_Law [(.goto 1385, 0, 0), (.iinc 4 6, 0, 0), (.goto (-1679), 0, 0)] (23, [some (zr (some (200, zSO))), some (zr (some (0, 0))), some (zr (some (11, 333))), some (zr (some (106, 380))), some (zi (v4 + 6)), some (zi x17.1), some (zi x19.1)], [], x19.2) (by decide +kernel) rfl ?_
        exact zG_end (L' := [some (zr (some (200, zSO))), some (zr (some (0, 0))), some (zr (some (11, 333))), some (zr (some (106, 380))), some (zi (v4 + 6)), none, none]) rfl (And.intro rfl (And.intro rfl (And.intro rfl (And.intro rfl (And.intro rfl trivial)))))
      · exact zG_none
  · exact zG_none
set_option maxRecDepth 20000 in
set_option maxHeartbeats 4000000 in
theorem k_law_a2 {l : Launch} {X : zX} (hl : l.stackTraces = false) {h : zH} {v4 : Int32} : zGl l m_law X 3 18 ((
            (f_Main_fault h).bind fun x25 =>
              (f_Mod_fault h).bind fun x26 =>
              if x25 = x26.1 then (
              some (.inl ((v4 + 6), x26.2))) else (
              none)) : Option ((Int32 × zH) ⊕ zH)) (317, [some (zr (some (200, zSO))), some (zr (some (0, 0))), some (zr (some (11, 333))), some (zr (some (106, 380))), some (zi v4), none, none], [], h) (Sum.elim (fun s : Int32 × zH => .inl (23, [some (zr (some (200, zSO))), some (zr (some (0, 0))), some (zr (some (11, 333))), some (zr (some (106, 380))), some (zi s.1), none, none], [], s.2)) (fun y : zH => .inl (1705, [none, none, none, none, none, none, none], [], y))) := by
  refine zG_run t_Law [(.aload_n 1, 0, 0)] (318, [some (zr (some (200, zSO))), some (zr (some (0, 0))), some (zr (some (11, 333))), some (zr (some (106, 380))), some (zi v4), none, none], [zr (some (0, 0))], h) (by decide +kernel) rfl ?_
  refine zG_callV (idx := 89) (R := (fun a => (some (zi a), h))) (as := []) (rest := []) (n := 0) (fun a ha => c_Main_fault hl ha) (by decide +kernel) ⟨ok_Main_fault, by decide, by decide +kernel⟩ rfl wl_14 wl_15 wl_16 (by decide) rfl rfl rfl (Nat.le_of_ble_eq_true rfl) fun x25 => ?_
  refine zG_run t_Law [(.aload_n 2, 0, 0)] (322, [some (zr (some (200, zSO))), some (zr (some (0, 0))), some (zr (some (11, 333))), some (zr (some (106, 380))), some (zi v4), none, none], [zr (some (11, 333)), zi x25], h) (by decide +kernel) rfl ?_
  refine zG_callV (idx := 92) (R := (fun a => (some (zi a.1), a.2))) (as := []) (rest := [zi x25]) (n := 0) (fun a ha => c_Mod_fault hl ha) (by decide +kernel) ⟨ok_Mod_fault, by decide, by decide +kernel⟩ rfl wl_17 wl_18 wl_19 (by decide) rfl rfl rfl (Nat.le_of_ble_eq_true rfl) fun x26 => ?_
  refine zG_icmp (op := .eq) (off := 1374) (tgt := 1699) (by decide +kernel) rfl Iff.rfl (fun c27 => ?_) (fun c27 => ?_)
  · refine zG_run t_Law [(.iinc 4 6, 0, 0), (.goto (-1679), 0, 0)] (23, [some (zr (some (200, zSO))), some (zr (some (0, 0))), some (zr (some (11, 333))), some (zr (some (106, 380))), some (zi (v4 + 6)), none, none], [], x26.2) (by decide +kernel) rfl ?_
    exact zG_end (L' := [some (zr (some (200, zSO))), some (zr (some (0, 0))), some (zr (some (11, 333))), some (zr (some (106, 380))), some (zi (v4 + 6)), none, none]) rfl (And.intro rfl (And.intro rfl (And.intro rfl (And.intro rfl (And.intro rfl trivial)))))
  · exact zG_none
set_option maxRecDepth 20000 in
set_option maxHeartbeats 4000000 in
theorem k_law_a3 {l : Launch} {X : zX} (hl : l.stackTraces = false) {h : zH} {v4 : Int32} : zGl l m_law X 3 18 ((
              zg (zb (v4 + 1) X.1) <|
                (f_L_count h (X.2 (v4 + 1).toNatClampNeg)).bind fun x30 =>
                zg (zb (v4 + 1) X.1) <|
                (f_Mod_count x30.2 (X.2 (v4 + 1).toNatClampNeg)).bind fun x32 =>
                (f_Mod_thrown x32.2).bind fun x33 =>
                if x33 = x30.1 then (
                if ¬ x30.1 = 0 then (
                  some (.inl ((v4 + 6), x32.2))) else (
                  if (x32.2.2.1 380 0) = x32.1.toInt64 then (
                    some (.inl ((v4 + 6), x32.2))) else (
                    none))) else (
                none)) : Option ((Int32 × zH) ⊕ zH)) (330, [some (zr (some (200, zSO))), some (zr (some (0, 0))), some (zr (some (11, 333))), some (zr (some (106, 380))), some (zi v4), none, none], [], h) (Sum.elim (fun s : Int32 × zH => .inl (23, [some (zr (some (200, zSO))), some (zr (some (0, 0))), some (zr (some (11, 333))), some (zr (some (106, 380))), some (zi s.1), none, none], [], s.2)) (fun y : zH => .inl (1705, [none, none, none, none, none, none, none], [], y))) := by
  refine zG_run t_Law [(.aload_n 1, 0, 0), (.aload_n 0, 0, 0), (.iload 4, 0, 0), (.iconst 1, 0, 0), (.iadd, 0, 0)] (336, [some (zr (some (200, zSO))), some (zr (some (0, 0))), some (zr (some (11, 333))), some (zr (some (106, 380))), some (zi v4), none, none], [zi (v4 + 1), zr (some (200, zSO)), zr (some (0, 0))], h) (by decide +kernel) rfl ?_
  refine zG_scr (by decide +kernel) fun hb29 => ?_
  refine zG_run t_Law [(.aload_n 3, 0, 0)] (338, [some (zr (some (200, zSO))), some (zr (some (0, 0))), some (zr (some (11, 333))), some (zr (some (106, 380))), some (zi v4), none, none], [zr (some (106, 380)), zi (X.2 (v4 + 1).toNatClampNeg), zr (some (0, 0))], h) (by decide +kernel) rfl ?_
  refine zG_mono (bc' := 0 + 1) (bs' := 0 + 6) (by decide) (by decide) ?_
  refine zG_callSX (idx := 93) (as := [zr (some (0, 0)), zi (X.2 (v4 + 1).toNatClampNeg), zr (some (106, 380))]) (rest := []) (n := 3) (fun a ha => c_L_count hl ha) (by decide +kernel) ⟨ok_L_count, by decide, by decide +kernel⟩ rfl wl_23 wl_24 rfl rfl (Nat.le_of_ble_eq_true rfl) fun x30 => ?_
  refine zG_run t_Law [(.istore 5, 0, 0), (.aload_n 2, 0, 0), (.aload_n 0, 0, 0), (.iload 4, 0, 0), (.iconst 1, 0, 0), (.iadd, 0, 0)] (349, [some (zr (some (200, zSO))), some (zr (some (0, 0))), some (zr (some (11, 333))), some (zr (some (106, 380))), some (zi v4), some (zi x30.1), none], [zi (v4 + 1), zr (some (200, zSO)), zr (some (11, 333))], x30.2) (by decide +kernel) rfl ?_
  refine zG_scr (by decide +kernel) fun hb31 => ?_
  refine zG_callV (idx := 95) (R := (fun a => (some (zi a.1), a.2))) (as := [zi (X.2 (v4 + 1).toNatClampNeg)]) (rest := []) (n := 1) (fun a ha => c_Mod_count hl ha) (by decide +kernel) ⟨ok_Mod_count, by decide, by decide +kernel⟩ rfl wl_20 wl_21 wl_22 (by decide) rfl rfl rfl (Nat.le_of_ble_eq_true rfl) fun x32 => ?_
  refine zG_run t_Law [(.istore 6, 0, 0), (.aload_n 2, 0, 0)] (356, [some (zr (some (200, zSO))), some (zr (some (0, 0))), some (zr (some (11, 333))), some (zr (some (106, 380))), some (zi v4), some (zi x30.1), some (zi x32.1)], [zr (some (11, 333))], x32.2) (by decide +kernel) rfl ?_
  refine zG_callV (idx := 85) (R := (fun a => (some (zi a), x32.2))) (as := []) (rest := []) (n := 0) (fun a ha => c_Mod_thrown hl ha) (by decide +kernel) ⟨ok_Mod_thrown, by decide, by decide +kernel⟩ rfl wl_9 wl_10 wl_11 (by decide) rfl rfl rfl (Nat.le_of_ble_eq_true rfl) fun x33 => ?_
  refine zG_run t_Law [(.iload 5, 0, 0)] (361, [some (zr (some (200, zSO))), some (zr (some (0, 0))), some (zr (some (11, 333))), some (zr (some (106, 380))), some (zi v4), some (zi x30.1), some (zi x32.1)], [zi x30.1, zi x33], x32.2) (by decide +kernel) rfl ?_
  refine zG_icmp (op := .eq) (off := 5) (tgt := 366) (by decide +kernel) rfl Iff.rfl (fun c36 => ?_) (fun c36 => ?_)
  · refine zG_run t_Law [(.iload 5, 0, 0)] (368, [some (zr (some (200, zSO))), some (zr (some (0, 0))), some (zr (some (11, 333))), some (zr (some (106, 380))), some (zi v4), some (zi x30.1), some (zi x32.1)], [zi x30.1], x32.2) (by decide +kernel) rfl ?_
    refine zG_if (op := .ne) (off := 15) (tgt := 383) (by decide +kernel) rfl Iff.rfl (fun c35 => ?_) (fun c35 => ?_)
    · refine zG_run t_Law [(.goto 1316, 0, 0), (.iinc 4 6, 0, 0), (.goto (-1679), 0, 0)] (23, [some (zr (some (200, zSO))), some (zr (some (0, 0))), some (zr (some (11, 333))), some (zr (some (106, 380))), some (zi (v4 + 6)), some (zi x30.1), some (zi x32.1)], [], x32.2) (by decide +kernel) rfl ?_
      exact zG_end (L' := [some (zr (some (200, zSO))), some (zr (some (0, 0))), some (zr (some (11, 333))), some (zr (some (106, 380))), some (zi (v4 + 6)), none, none]) rfl (And.intro rfl (And.intro rfl (And.intro rfl (And.intro rfl (And.intro rfl trivial)))))
    · refine zG_run t_Law [(.aload_n 3, 0, 0), (.iconst 0, 0, 0)] (373, [some (zr (some (200, zSO))), some (zr (some (0, 0))), some (zr (some (11, 333))), some (zr (some (106, 380))), some (zi v4), some (zi x30.1), some (zi x32.1)], [zi 0, zr (some (106, 380))], x32.2) (by decide +kernel) rfl ?_
      refine zG_aldc (v := zl (x32.2.2.1 380 0)) rfl (by decide +kernel) (by decide +kernel) rfl ?_
      refine zG_run t_Law [(.iload 6, 0, 0), (.i2l, 0, 0), (.lcmp, 0, 0)] (378, [some (zr (some (200, zSO))), some (zr (some (0, 0))), some (zr (some (11, 333))), some (zr (some (106, 380))), some (zi v4), some (zi x30.1), some (zi x32.1)], [zi (lg_cmp (x32.2.2.1 380 0) x32.1.toInt64)], x32.2) (by decide +kernel) rfl ?_
      refine zG_if (op := .eq) (off := 5) (tgt := 383) (by decide +kernel) rfl zcmp0 (fun c34 => ?_) (fun c34 => ?_)
      · refine zG_run t_Law [(.goto 1316, 0, 0), (.iinc 4 6, 0, 0), (.goto (-1679), 0, 0)] (23, [some (zr (some (200, zSO))), some (zr (some (0, 0))), some (zr (some (11, 333))), some (zr (some (106, 380))), some (zi (v4 + 6)), some (zi x30.1), some (zi x32.1)], [], x32.2) (by decide +kernel) rfl ?_
        exact zG_end (L' := [some (zr (some (200, zSO))), some (zr (some (0, 0))), some (zr (some (11, 333))), some (zr (some (106, 380))), some (zi (v4 + 6)), none, none]) rfl (And.intro rfl (And.intro rfl (And.intro rfl (And.intro rfl (And.intro rfl trivial)))))
      · exact zG_none
  · exact zG_none
set_option maxRecDepth 20000 in
set_option maxHeartbeats 4000000 in
theorem k_law_a4 {l : Launch} {X : zX} (hl : l.stackTraces = false) {h : zH} {v4 : Int32} : zGl l m_law X 3 18 ((
                zg (zb (v4 + 1) X.1) <|
                  zg (zb (v4 + 2) X.1) <|
                  (f_L_line h (X.2 (v4 + 1).toNatClampNeg) (X.2 (v4 + 2).toNatClampNeg)).bind fun x40 =>
                  zg (zb (v4 + 1) X.1) <|
                  zg (zb (v4 + 2) X.1) <|
                  (f_Mod_line x40.2 (X.2 (v4 + 1).toNatClampNeg) (X.2 (v4 + 2).toNatClampNeg)).bind fun x43 =>
                  (f_Mod_thrown x43.2).bind fun x44 =>
                  if x44 = x40.1 then (
                  if ¬ x40.1 = 0 then (
                    some (.inl ((v4 + 6), x43.2))) else (
                    if (x43.2.2.1 380 0) = x43.1.toInt64 then (
                      some (.inl ((v4 + 6), x43.2))) else (
                      none))) else (
                  none)) : Option ((Int32 × zH) ⊕ zH)) (386, [some (zr (some (200, zSO))), some (zr (some (0, 0))), some (zr (some (11, 333))), some (zr (some (106, 380))), some (zi v4), none, none], [], h) (Sum.elim (fun s : Int32 × zH => .inl (23, [some (zr (some (200, zSO))), some (zr (some (0, 0))), some (zr (some (11, 333))), some (zr (some (106, 380))), some (zi s.1), none, none], [], s.2)) (fun y : zH => .inl (1705, [none, none, none, none, none, none, none], [], y))) := by
  refine zG_run t_Law [(.aload_n 1, 0, 0), (.aload_n 0, 0, 0), (.iload 4, 0, 0), (.iconst 1, 0, 0), (.iadd, 0, 0)] (392, [some (zr (some (200, zSO))), some (zr (some (0, 0))), some (zr (some (11, 333))), some (zr (some (106, 380))), some (zi v4), none, none], [zi (v4 + 1), zr (some (200, zSO)), zr (some (0, 0))], h) (by decide +kernel) rfl ?_
  refine zG_scr (by decide +kernel) fun hb38 => ?_
  refine zG_run t_Law [(.aload_n 0, 0, 0), (.iload 4, 0, 0), (.iconst 2, 0, 0), (.iadd, 0, 0)] (398, [some (zr (some (200, zSO))), some (zr (some (0, 0))), some (zr (some (11, 333))), some (zr (some (106, 380))), some (zi v4), none, none], [zi (v4 + 2), zr (some (200, zSO)), zi (X.2 (v4 + 1).toNatClampNeg), zr (some (0, 0))], h) (by decide +kernel) rfl ?_
  refine zG_scr (by decide +kernel) fun hb39 => ?_
  refine zG_run t_Law [(.aload_n 3, 0, 0)] (400, [some (zr (some (200, zSO))), some (zr (some (0, 0))), some (zr (some (11, 333))), some (zr (some (106, 380))), some (zi v4), none, none], [zr (some (106, 380)), zi (X.2 (v4 + 2).toNatClampNeg), zi (X.2 (v4 + 1).toNatClampNeg), zr (some (0, 0))], h) (by decide +kernel) rfl ?_
  refine zG_mono (bc' := 0 + 2) (bs' := 0 + 12) (by decide) (by decide) ?_
  refine zG_callSX (idx := 96) (as := [zr (some (0, 0)), zi (X.2 (v4 + 1).toNatClampNeg), zi (X.2 (v4 + 2).toNatClampNeg), zr (some (106, 380))]) (rest := []) (n := 4) (fun a ha => c_L_line hl ha) (by decide +kernel) ⟨ok_L_line, by decide, by decide +kernel⟩ rfl wl_28 wl_29 rfl rfl (Nat.le_of_ble_eq_true rfl) fun x40 => ?_
  refine zG_run t_Law [(.istore 5, 0, 0), (.aload_n 2, 0, 0), (.aload_n 0, 0, 0), (.iload 4, 0, 0), (.iconst 1, 0, 0), (.iadd, 0, 0)] (411, [some (zr (some (200, zSO))), some (zr (some (0, 0))), some (zr (some (11, 333))), some (zr (some (106, 380))), some (zi v4), some (zi x40.1), none], [zi (v4 + 1), zr (some (200, zSO)), zr (some (11, 333))], x40.2) (by decide +kernel) rfl ?_
  refine zG_scr (by decide +kernel) fun hb41 => ?_
  refine zG_run t_Law [(.aload_n 0, 0, 0), (.iload 4, 0, 0), (.iconst 2, 0, 0), (.iadd, 0, 0)] (417, [some (zr (some (200, zSO))), some (zr (some (0, 0))), some (zr (some (11, 333))), some (zr (some (106, 380))), some (zi v4), some (zi x40.1), none], [zi (v4 + 2), zr (some (200, zSO)), zi (X.2 (v4 + 1).toNatClampNeg), zr (some (11, 333))], x40.2) (by decide +kernel) rfl ?_
  refine zG_scr (by decide +kernel) fun hb42 => ?_
  refine zG_callV (idx := 99) (R := (fun a => (some (zi a.1), a.2))) (as := [zi (X.2 (v4 + 1).toNatClampNeg), zi (X.2 (v4 + 2).toNatClampNeg)]) (rest := []) (n := 2) (fun a ha => c_Mod_line hl ha) (by decide +kernel) ⟨ok_Mod_line, by decide, by decide +kernel⟩ rfl wl_25 wl_26 wl_27 (by decide) rfl rfl rfl (Nat.le_of_ble_eq_true rfl) fun x43 => ?_
  refine zG_run t_Law [(.istore 6, 0, 0), (.aload_n 2, 0, 0)] (424, [some (zr (some (200, zSO))), some (zr (some (0, 0))), some (zr (some (11, 333))), some (zr (some (106, 380))), some (zi v4), some (zi x40.1), some (zi x43.1)], [zr (some (11, 333))], x43.2) (by decide +kernel) rfl ?_
  refine zG_callV (idx := 85) (R := (fun a => (some (zi a), x43.2))) (as := []) (rest := []) (n := 0) (fun a ha => c_Mod_thrown hl ha) (by decide +kernel) ⟨ok_Mod_thrown, by decide, by decide +kernel⟩ rfl wl_9 wl_10 wl_11 (by decide) rfl rfl rfl (Nat.le_of_ble_eq_true rfl) fun x44 => ?_
  refine zG_run t_Law [(.iload 5, 0, 0)] (429, [some (zr (some (200, zSO))), some (zr (some (0, 0))), some (zr (some (11, 333))), some (zr (some (106, 380))), some (zi v4), some (zi x40.1), some (zi x43.1)], [zi x40.1, zi x44], x43.2) (by decide +kernel) rfl ?_
  refine zG_icmp (op := .eq) (off := 5) (tgt := 434) (by decide +kernel) rfl Iff.rfl (fun c47 => ?_) (fun c47 => ?_)
  · refine zG_run t_Law [(.iload 5, 0, 0)] (436, [some (zr (some (200, zSO))), some (zr (some (0, 0))), some (zr (some (11, 333))), some (zr (some (106, 380))), some (zi v4), some (zi x40.1), some (zi x43.1)], [zi x40.1], x43.2) (by decide +kernel) rfl ?_
    refine zG_if (op := .ne) (off := 15) (tgt := 451) (by decide +kernel) rfl Iff.rfl (fun c46 => ?_) (fun c46 => ?_)
    · refine zG_run t_Law [(.goto 1248, 0, 0), (.iinc 4 6, 0, 0), (.goto (-1679), 0, 0)] (23, [some (zr (some (200, zSO))), some (zr (some (0, 0))), some (zr (some (11, 333))), some (zr (some (106, 380))), some (zi (v4 + 6)), some (zi x40.1), some (zi x43.1)], [], x43.2) (by decide +kernel) rfl ?_
      exact zG_end (L' := [some (zr (some (200, zSO))), some (zr (some (0, 0))), some (zr (some (11, 333))), some (zr (some (106, 380))), some (zi (v4 + 6)), none, none]) rfl (And.intro rfl (And.intro rfl (And.intro rfl (And.intro rfl (And.intro rfl trivial)))))
    · refine zG_run t_Law [(.aload_n 3, 0, 0), (.iconst 0, 0, 0)] (441, [some (zr (some (200, zSO))), some (zr (some (0, 0))), some (zr (some (11, 333))), some (zr (some (106, 380))), some (zi v4), some (zi x40.1), some (zi x43.1)], [zi 0, zr (some (106, 380))], x43.2) (by decide +kernel) rfl ?_
      refine zG_aldc (v := zl (x43.2.2.1 380 0)) rfl (by decide +kernel) (by decide +kernel) rfl ?_
      refine zG_run t_Law [(.iload 6, 0, 0), (.i2l, 0, 0), (.lcmp, 0, 0)] (446, [some (zr (some (200, zSO))), some (zr (some (0, 0))), some (zr (some (11, 333))), some (zr (some (106, 380))), some (zi v4), some (zi x40.1), some (zi x43.1)], [zi (lg_cmp (x43.2.2.1 380 0) x43.1.toInt64)], x43.2) (by decide +kernel) rfl ?_
      refine zG_if (op := .eq) (off := 5) (tgt := 451) (by decide +kernel) rfl zcmp0 (fun c45 => ?_) (fun c45 => ?_)
      · refine zG_run t_Law [(.goto 1248, 0, 0), (.iinc 4 6, 0, 0), (.goto (-1679), 0, 0)] (23, [some (zr (some (200, zSO))), some (zr (some (0, 0))), some (zr (some (11, 333))), some (zr (some (106, 380))), some (zi (v4 + 6)), some (zi x40.1), some (zi x43.1)], [], x43.2) (by decide +kernel) rfl ?_
        exact zG_end (L' := [some (zr (some (200, zSO))), some (zr (some (0, 0))), some (zr (some (11, 333))), some (zr (some (106, 380))), some (zi (v4 + 6)), none, none]) rfl (And.intro rfl (And.intro rfl (And.intro rfl (And.intro rfl (And.intro rfl trivial)))))
      · exact zG_none
  · exact zG_none
set_option maxRecDepth 20000 in
set_option maxHeartbeats 4000000 in
theorem k_law_a5 {l : Launch} {X : zX} (hl : l.stackTraces = false) {h : zH} {v4 : Int32} : zGl l m_law X 3 18 ((
                  zg (zb (v4 + 1) X.1) <|
                    zg (zb (v4 + 2) X.1) <|
                    (f_L_letter h (X.2 (v4 + 1).toNatClampNeg) (X.2 (v4 + 2).toNatClampNeg)).bind fun x51 =>
                    zg (zb (v4 + 1) X.1) <|
                    zg (zb (v4 + 2) X.1) <|
                    (f_Mod_letter x51.2 (X.2 (v4 + 1).toNatClampNeg) (X.2 (v4 + 2).toNatClampNeg)).bind fun x54 =>
                    (f_Mod_thrown x54.2).bind fun x55 =>
                    if x55 = x51.1 then (
                    if ¬ x51.1 = 0 then (
                      some (.inl ((v4 + 6), x54.2))) else (
                      if (x54.2.2.1 380 0) = x54.1.toInt64 then (
                        some (.inl ((v4 + 6), x54.2))) else (
                        none))) else (
                    none)) : Option ((Int32 × zH) ⊕ zH)) (454, [some (zr (some (200, zSO))), some (zr (some (0, 0))), some (zr (some (11, 333))), some (zr (some (106, 380))), some (zi v4), none, none], [], h) (Sum.elim (fun s : Int32 × zH => .inl (23, [some (zr (some (200, zSO))), some (zr (some (0, 0))), some (zr (some (11, 333))), some (zr (some (106, 380))), some (zi s.1), none, none], [], s.2)) (fun y : zH => .inl (1705, [none, none, none, none, none, none, none], [], y))) := by
  refine zG_run t_Law [(.aload_n 1, 0, 0), (.aload_n 0, 0, 0), (.iload 4, 0, 0), (.iconst 1, 0, 0), (.iadd, 0, 0)] (460, [some (zr (some (200, zSO))), some (zr (some (0, 0))), some (zr (some (11, 333))), some (zr (some (106, 380))), some (zi v4), none, none], [zi (v4 + 1), zr (some (200, zSO)), zr (some (0, 0))], h) (by decide +kernel) rfl ?_
  refine zG_scr (by decide +kernel) fun hb49 => ?_
  refine zG_run t_Law [(.aload_n 0, 0, 0), (.iload 4, 0, 0), (.iconst 2, 0, 0), (.iadd, 0, 0)] (466, [some (zr (some (200, zSO))), some (zr (some (0, 0))), some (zr (some (11, 333))), some (zr (some (106, 380))), some (zi v4), none, none], [zi (v4 + 2), zr (some (200, zSO)), zi (X.2 (v4 + 1).toNatClampNeg), zr (some (0, 0))], h) (by decide +kernel) rfl ?_
  refine zG_scr (by decide +kernel) fun hb50 => ?_
  refine zG_run t_Law [(.aload_n 3, 0, 0)] (468, [some (zr (some (200, zSO))), some (zr (some (0, 0))), some (zr (some (11, 333))), some (zr (some (106, 380))), some (zi v4), none, none], [zr (some (106, 380)), zi (X.2 (v4 + 2).toNatClampNeg), zi (X.2 (v4 + 1).toNatClampNeg), zr (some (0, 0))], h) (by decide +kernel) rfl ?_
  refine zG_mono (bc' := 0 + 2) (bs' := 0 + 12) (by decide) (by decide) ?_
  refine zG_callSX (idx := 100) (as := [zr (some (0, 0)), zi (X.2 (v4 + 1).toNatClampNeg), zi (X.2 (v4 + 2).toNatClampNeg), zr (some (106, 380))]) (rest := []) (n := 4) (fun a ha => c_L_letter hl ha) (by decide +kernel) ⟨ok_L_letter, by decide, by decide +kernel⟩ rfl wl_33 wl_34 rfl rfl (Nat.le_of_ble_eq_true rfl) fun x51 => ?_
  refine zG_run t_Law [(.istore 5, 0, 0), (.aload_n 2, 0, 0), (.aload_n 0, 0, 0), (.iload 4, 0, 0), (.iconst 1, 0, 0), (.iadd, 0, 0)] (479, [some (zr (some (200, zSO))), some (zr (some (0, 0))), some (zr (some (11, 333))), some (zr (some (106, 380))), some (zi v4), some (zi x51.1), none], [zi (v4 + 1), zr (some (200, zSO)), zr (some (11, 333))], x51.2) (by decide +kernel) rfl ?_
  refine zG_scr (by decide +kernel) fun hb52 => ?_
  refine zG_run t_Law [(.aload_n 0, 0, 0), (.iload 4, 0, 0), (.iconst 2, 0, 0), (.iadd, 0, 0)] (485, [some (zr (some (200, zSO))), some (zr (some (0, 0))), some (zr (some (11, 333))), some (zr (some (106, 380))), some (zi v4), some (zi x51.1), none], [zi (v4 + 2), zr (some (200, zSO)), zi (X.2 (v4 + 1).toNatClampNeg), zr (some (11, 333))], x51.2) (by decide +kernel) rfl ?_
  refine zG_scr (by decide +kernel) fun hb53 => ?_
  refine zG_callV (idx := 102) (R := (fun a => (some (zi a.1), a.2))) (as := [zi (X.2 (v4 + 1).toNatClampNeg), zi (X.2 (v4 + 2).toNatClampNeg)]) (rest := []) (n := 2) (fun a ha => c_Mod_letter hl ha) (by decide +kernel) ⟨ok_Mod_letter, by decide, by decide +kernel⟩ rfl wl_30 wl_31 wl_32 (by decide) rfl rfl rfl (Nat.le_of_ble_eq_true rfl) fun x54 => ?_
  refine zG_run t_Law [(.istore 6, 0, 0), (.aload_n 2, 0, 0)] (492, [some (zr (some (200, zSO))), some (zr (some (0, 0))), some (zr (some (11, 333))), some (zr (some (106, 380))), some (zi v4), some (zi x51.1), some (zi x54.1)], [zr (some (11, 333))], x54.2) (by decide +kernel) rfl ?_
  refine zG_callV (idx := 85) (R := (fun a => (some (zi a), x54.2))) (as := []) (rest := []) (n := 0) (fun a ha => c_Mod_thrown hl ha) (by decide +kernel) ⟨ok_Mod_thrown, by decide, by decide +kernel⟩ rfl wl_9 wl_10 wl_11 (by decide) rfl rfl rfl (Nat.le_of_ble_eq_true rfl) fun x55 => ?_
  refine zG_run t_Law [(.iload 5, 0, 0)] (497, [some (zr (some (200, zSO))), some (zr (some (0, 0))), some (zr (some (11, 333))), some (zr (some (106, 380))), some (zi v4), some (zi x51.1), some (zi x54.1)], [zi x51.1, zi x55], x54.2) (by decide +kernel) rfl ?_
  refine zG_icmp (op := .eq) (off := 5) (tgt := 502) (by decide +kernel) rfl Iff.rfl (fun c58 => ?_) (fun c58 => ?_)
  · refine zG_run t_Law [(.iload 5, 0, 0)] (504, [some (zr (some (200, zSO))), some (zr (some (0, 0))), some (zr (some (11, 333))), some (zr (some (106, 380))), some (zi v4), some (zi x51.1), some (zi x54.1)], [zi x51.1], x54.2) (by decide +kernel) rfl ?_
    refine zG_if (op := .ne) (off := 15) (tgt := 519) (by decide +kernel) rfl Iff.rfl (fun c57 => ?_) (fun c57 => ?_)
    · refine zG_run t_Law [(.goto 1180, 0, 0), (.iinc 4 6, 0, 0), (.goto (-1679), 0, 0)] (23, [some (zr (some (200, zSO))), some (zr (some (0, 0))), some (zr (some (11, 333))), some (zr (some (106, 380))), some (zi (v4 + 6)), some (zi x51.1), some (zi x54.1)], [], x54.2) (by decide +kernel) rfl ?_
      exact zG_end (L' := [some (zr (some (200, zSO))), some (zr (some (0, 0))), some (zr (some (11, 333))), some (zr (some (106, 380))), some (zi (v4 + 6)), none, none]) rfl (And.intro rfl (And.intro rfl (And.intro rfl (And.intro rfl (And.intro rfl trivial)))))
    · refine zG_run t_Law [(.aload_n 3, 0, 0), (.iconst 0, 0, 0)] (509, [some (zr (some (200, zSO))), some (zr (some (0, 0))), some (zr (some (11, 333))), some (zr (some (106, 380))), some (zi v4), some (zi x51.1), some (zi x54.1)], [zi 0, zr (some (106, 380))], x54.2) (by decide +kernel) rfl ?_
      refine zG_aldc (v := zl (x54.2.2.1 380 0)) rfl (by decide +kernel) (by decide +kernel) rfl ?_
      refine zG_run t_Law [(.iload 6, 0, 0), (.i2l, 0, 0), (.lcmp, 0, 0)] (514, [some (zr (some (200, zSO))), some (zr (some (0, 0))), some (zr (some (11, 333))), some (zr (some (106, 380))), some (zi v4), some (zi x51.1), some (zi x54.1)], [zi (lg_cmp (x54.2.2.1 380 0) x54.1.toInt64)], x54.2) (by decide +kernel) rfl ?_
      refine zG_if (op := .eq) (off := 5) (tgt := 519) (by decide +kernel) rfl zcmp0 (fun c56 => ?_) (fun c56 => ?_)
      · refine zG_run t_Law [(.goto 1180, 0, 0), (.iinc 4 6, 0, 0), (.goto (-1679), 0, 0)] (23, [some (zr (some (200, zSO))), some (zr (some (0, 0))), some (zr (some (11, 333))), some (zr (some (106, 380))), some (zi (v4 + 6)), some (zi x51.1), some (zi x54.1)], [], x54.2) (by decide +kernel) rfl ?_
        exact zG_end (L' := [some (zr (some (200, zSO))), some (zr (some (0, 0))), some (zr (some (11, 333))), some (zr (some (106, 380))), some (zi (v4 + 6)), none, none]) rfl (And.intro rfl (And.intro rfl (And.intro rfl (And.intro rfl (And.intro rfl trivial)))))
      · exact zG_none
  · exact zG_none
set_option maxRecDepth 20000 in
set_option maxHeartbeats 4000000 in
theorem k_law_a6 {l : Launch} {X : zX} (hl : l.stackTraces = false) {h : zH} {v4 : Int32} : zGl l m_law X 3 18 ((
                    zg (zb (v4 + 1) X.1) <|
                      zg (zb (v4 + 2) X.1) <|
                      (f_L_chain h (X.2 (v4 + 1).toNatClampNeg) (X.2 (v4 + 2).toNatClampNeg)).bind fun x62 =>
                      zg (zb (v4 + 1) X.1) <|
                      zg (zb (v4 + 2) X.1) <|
                      (f_Mod_chain x62.2 (X.2 (v4 + 1).toNatClampNeg) (X.2 (v4 + 2).toNatClampNeg)).bind fun x65 =>
                      (f_Mod_thrown x65.2).bind fun x66 =>
                      if x66 = x62.1 then (
                      if ¬ x62.1 = 0 then (
                        some (.inl ((v4 + 6), x65.2))) else (
                        if (x65.2.2.1 380 0) = x65.1.toInt64 then (
                          some (.inl ((v4 + 6), x65.2))) else (
                          none))) else (
                      none)) : Option ((Int32 × zH) ⊕ zH)) (522, [some (zr (some (200, zSO))), some (zr (some (0, 0))), some (zr (some (11, 333))), some (zr (some (106, 380))), some (zi v4), none, none], [], h) (Sum.elim (fun s : Int32 × zH => .inl (23, [some (zr (some (200, zSO))), some (zr (some (0, 0))), some (zr (some (11, 333))), some (zr (some (106, 380))), some (zi s.1), none, none], [], s.2)) (fun y : zH => .inl (1705, [none, none, none, none, none, none, none], [], y))) := by
  refine zG_run t_Law [(.aload_n 1, 0, 0), (.aload_n 0, 0, 0), (.iload 4, 0, 0), (.iconst 1, 0, 0), (.iadd, 0, 0)] (528, [some (zr (some (200, zSO))), some (zr (some (0, 0))), some (zr (some (11, 333))), some (zr (some (106, 380))), some (zi v4), none, none], [zi (v4 + 1), zr (some (200, zSO)), zr (some (0, 0))], h) (by decide +kernel) rfl ?_
  refine zG_scr (by decide +kernel) fun hb60 => ?_
  refine zG_run t_Law [(.aload_n 0, 0, 0), (.iload 4, 0, 0), (.iconst 2, 0, 0), (.iadd, 0, 0)] (534, [some (zr (some (200, zSO))), some (zr (some (0, 0))), some (zr (some (11, 333))), some (zr (some (106, 380))), some (zi v4), none, none], [zi (v4 + 2), zr (some (200, zSO)), zi (X.2 (v4 + 1).toNatClampNeg), zr (some (0, 0))], h) (by decide +kernel) rfl ?_
  refine zG_scr (by decide +kernel) fun hb61 => ?_
  refine zG_run t_Law [(.aload_n 3, 0, 0)] (536, [some (zr (some (200, zSO))), some (zr (some (0, 0))), some (zr (some (11, 333))), some (zr (some (106, 380))), some (zi v4), none, none], [zr (some (106, 380)), zi (X.2 (v4 + 2).toNatClampNeg), zi (X.2 (v4 + 1).toNatClampNeg), zr (some (0, 0))], h) (by decide +kernel) rfl ?_
  refine zG_mono (bc' := 0 + 1) (bs' := 0 + 6) (by decide) (by decide) ?_
  refine zG_callSX (idx := 103) (as := [zr (some (0, 0)), zi (X.2 (v4 + 1).toNatClampNeg), zi (X.2 (v4 + 2).toNatClampNeg), zr (some (106, 380))]) (rest := []) (n := 4) (fun a ha => c_L_chain hl ha) (by decide +kernel) ⟨ok_L_chain, by decide, by decide +kernel⟩ rfl wl_38 wl_39 rfl rfl (Nat.le_of_ble_eq_true rfl) fun x62 => ?_
  refine zG_run t_Law [(.istore 5, 0, 0), (.aload_n 2, 0, 0), (.aload_n 0, 0, 0), (.iload 4, 0, 0), (.iconst 1, 0, 0), (.iadd, 0, 0)] (547, [some (zr (some (200, zSO))), some (zr (some (0, 0))), some (zr (some (11, 333))), some (zr (some (106, 380))), some (zi v4), some (zi x62.1), none], [zi (v4 + 1), zr (some (200, zSO)), zr (some (11, 333))], x62.2) (by decide +kernel) rfl ?_
  refine zG_scr (by decide +kernel) fun hb63 => ?_
  refine zG_run t_Law [(.aload_n 0, 0, 0), (.iload 4, 0, 0), (.iconst 2, 0, 0), (.iadd, 0, 0)] (553, [some (zr (some (200, zSO))), some (zr (some (0, 0))), some (zr (some (11, 333))), some (zr (some (106, 380))), some (zi v4), some (zi x62.1), none], [zi (v4 + 2), zr (some (200, zSO)), zi (X.2 (v4 + 1).toNatClampNeg), zr (some (11, 333))], x62.2) (by decide +kernel) rfl ?_
  refine zG_scr (by decide +kernel) fun hb64 => ?_
  refine zG_callV (idx := 105) (R := (fun a => (some (zi a.1), a.2))) (as := [zi (X.2 (v4 + 1).toNatClampNeg), zi (X.2 (v4 + 2).toNatClampNeg)]) (rest := []) (n := 2) (fun a ha => c_Mod_chain hl ha) (by decide +kernel) ⟨ok_Mod_chain, by decide, by decide +kernel⟩ rfl wl_35 wl_36 wl_37 (by decide) rfl rfl rfl (Nat.le_of_ble_eq_true rfl) fun x65 => ?_
  refine zG_run t_Law [(.istore 6, 0, 0), (.aload_n 2, 0, 0)] (560, [some (zr (some (200, zSO))), some (zr (some (0, 0))), some (zr (some (11, 333))), some (zr (some (106, 380))), some (zi v4), some (zi x62.1), some (zi x65.1)], [zr (some (11, 333))], x65.2) (by decide +kernel) rfl ?_
  refine zG_callV (idx := 85) (R := (fun a => (some (zi a), x65.2))) (as := []) (rest := []) (n := 0) (fun a ha => c_Mod_thrown hl ha) (by decide +kernel) ⟨ok_Mod_thrown, by decide, by decide +kernel⟩ rfl wl_9 wl_10 wl_11 (by decide) rfl rfl rfl (Nat.le_of_ble_eq_true rfl) fun x66 => ?_
  refine zG_run t_Law [(.iload 5, 0, 0)] (565, [some (zr (some (200, zSO))), some (zr (some (0, 0))), some (zr (some (11, 333))), some (zr (some (106, 380))), some (zi v4), some (zi x62.1), some (zi x65.1)], [zi x62.1, zi x66], x65.2) (by decide +kernel) rfl ?_
  refine zG_icmp (op := .eq) (off := 5) (tgt := 570) (by decide +kernel) rfl Iff.rfl (fun c69 => ?_) (fun c69 => ?_)
  · refine zG_run t_Law [(.iload 5, 0, 0)] (572, [some (zr (some (200, zSO))), some (zr (some (0, 0))), some (zr (some (11, 333))), some (zr (some (106, 380))), some (zi v4), some (zi x62.1), some (zi x65.1)], [zi x62.1], x65.2) (by decide +kernel) rfl ?_
    refine zG_if (op := .ne) (off := 15) (tgt := 587) (by decide +kernel) rfl Iff.rfl (fun c68 => ?_) (fun c68 => ?_)
    · refine zG_run t_Law [(.goto 1112, 0, 0), (.iinc 4 6, 0, 0), (.goto (-1679), 0, 0)] (23, [some (zr (some (200, zSO))), some (zr (some (0, 0))), some (zr (some (11, 333))), some (zr (some (106, 380))), some (zi (v4 + 6)), some (zi x62.1), some (zi x65.1)], [], x65.2) (by decide +kernel) rfl ?_
      exact zG_end (L' := [some (zr (some (200, zSO))), some (zr (some (0, 0))), some (zr (some (11, 333))), some (zr (some (106, 380))), some (zi (v4 + 6)), none, none]) rfl (And.intro rfl (And.intro rfl (And.intro rfl (And.intro rfl (And.intro rfl trivial)))))
    · refine zG_run t_Law [(.aload_n 3, 0, 0), (.iconst 0, 0, 0)] (577, [some (zr (some (200, zSO))), some (zr (some (0, 0))), some (zr (some (11, 333))), some (zr (some (106, 380))), some (zi v4), some (zi x62.1), some (zi x65.1)], [zi 0, zr (some (106, 380))], x65.2) (by decide +kernel) rfl ?_
      refine zG_aldc (v := zl (x65.2.2.1 380 0)) rfl (by decide +kernel) (by decide +kernel) rfl ?_
      refine zG_run t_Law [(.iload 6, 0, 0), (.i2l, 0, 0), (.lcmp, 0, 0)] (582, [some (zr (some (200, zSO))), some (zr (some (0, 0))), some (zr (some (11, 333))), some (zr (some (106, 380))), some (zi v4), some (zi x62.1), some (zi x65.1)], [zi (lg_cmp (x65.2.2.1 380 0) x65.1.toInt64)], x65.2) (by decide +kernel) rfl ?_
      refine zG_if (op := .eq) (off := 5) (tgt := 587) (by decide +kernel) rfl zcmp0 (fun c67 => ?_) (fun c67 => ?_)
      · refine zG_run t_Law [(.goto 1112, 0, 0), (.iinc 4 6, 0, 0), (.goto (-1679), 0, 0)] (23, [some (zr (some (200, zSO))), some (zr (some (0, 0))), some (zr (some (11, 333))), some (zr (some (106, 380))), some (zi (v4 + 6)), some (zi x62.1), some (zi x65.1)], [], x65.2) (by decide +kernel) rfl ?_
        exact zG_end (L' := [some (zr (some (200, zSO))), some (zr (some (0, 0))), some (zr (some (11, 333))), some (zr (some (106, 380))), some (zi (v4 + 6)), none, none]) rfl (And.intro rfl (And.intro rfl (And.intro rfl (And.intro rfl (And.intro rfl trivial)))))
      · exact zG_none
  · exact zG_none
set_option maxRecDepth 20000 in
set_option maxHeartbeats 4000000 in
theorem k_law_a7 {l : Launch} {X : zX} (hl : l.stackTraces = false) {h : zH} {v4 : Int32} : zGl l m_law X 3 18 ((
                      zg (zb (v4 + 1) X.1) <|
                        zg (zb (v4 + 2) X.1) <|
                        (f_L_test h (X.2 (v4 + 1).toNatClampNeg) (X.2 (v4 + 2).toNatClampNeg)).bind fun x73 =>
                        zg (zb (v4 + 1) X.1) <|
                        zg (zb (v4 + 2) X.1) <|
                        (f_Mod_test x73.2 (X.2 (v4 + 1).toNatClampNeg) (X.2 (v4 + 2).toNatClampNeg)).bind fun x76 =>
                        (f_Mod_thrown x76.2).bind fun x77 =>
                        if x77 = x73.1 then (
                        if ¬ x73.1 = 0 then (
                          some (.inl ((v4 + 6), x76.2))) else (
                          if (x76.2.2.1 380 0) = x76.1.toInt64 then (
                            some (.inl ((v4 + 6), x76.2))) else (
                            none))) else (
                        none)) : Option ((Int32 × zH) ⊕ zH)) (590, [some (zr (some (200, zSO))), some (zr (some (0, 0))), some (zr (some (11, 333))), some (zr (some (106, 380))), some (zi v4), none, none], [], h) (Sum.elim (fun s : Int32 × zH => .inl (23, [some (zr (some (200, zSO))), some (zr (some (0, 0))), some (zr (some (11, 333))), some (zr (some (106, 380))), some (zi s.1), none, none], [], s.2)) (fun y : zH => .inl (1705, [none, none, none, none, none, none, none], [], y))) := by
  refine zG_run t_Law [(.aload_n 1, 0, 0), (.aload_n 0, 0, 0), (.iload 4, 0, 0), (.iconst 1, 0, 0), (.iadd, 0, 0)] (596, [some (zr (some (200, zSO))), some (zr (some (0, 0))), some (zr (some (11, 333))), some (zr (some (106, 380))), some (zi v4), none, none], [zi (v4 + 1), zr (some (200, zSO)), zr (some (0, 0))], h) (by decide +kernel) rfl ?_
  refine zG_scr (by decide +kernel) fun hb71 => ?_
  refine zG_run t_Law [(.aload_n 0, 0, 0), (.iload 4, 0, 0), (.iconst 2, 0, 0), (.iadd, 0, 0)] (602, [some (zr (some (200, zSO))), some (zr (some (0, 0))), some (zr (some (11, 333))), some (zr (some (106, 380))), some (zi v4), none, none], [zi (v4 + 2), zr (some (200, zSO)), zi (X.2 (v4 + 1).toNatClampNeg), zr (some (0, 0))], h) (by decide +kernel) rfl ?_
  refine zG_scr (by decide +kernel) fun hb72 => ?_
  refine zG_run t_Law [(.aload_n 3, 0, 0)] (604, [some (zr (some (200, zSO))), some (zr (some (0, 0))), some (zr (some (11, 333))), some (zr (some (106, 380))), some (zi v4), none, none], [zr (some (106, 380)), zi (X.2 (v4 + 2).toNatClampNeg), zi (X.2 (v4 + 1).toNatClampNeg), zr (some (0, 0))], h) (by decide +kernel) rfl ?_
  refine zG_mono (bc' := 0 + 2) (bs' := 0 + 12) (by decide) (by decide) ?_
  refine zG_callSX (idx := 106) (as := [zr (some (0, 0)), zi (X.2 (v4 + 1).toNatClampNeg), zi (X.2 (v4 + 2).toNatClampNeg), zr (some (106, 380))]) (rest := []) (n := 4) (fun a ha => c_L_test hl ha) (by decide +kernel) ⟨ok_L_test, by decide, by decide +kernel⟩ rfl wl_43 wl_44 rfl rfl (Nat.le_of_ble_eq_true rfl) fun x73 => ?_
  refine zG_run t_Law [(.istore 5, 0, 0), (.aload_n 2, 0, 0), (.aload_n 0, 0, 0), (.iload 4, 0, 0), (.iconst 1, 0, 0), (.iadd, 0, 0)] (615, [some (zr (some (200, zSO))), some (zr (some (0, 0))), some (zr (some (11, 333))), some (zr (some (106, 380))), some (zi v4), some (zi x73.1), none], [zi (v4 + 1), zr (some (200, zSO)), zr (some (11, 333))], x73.2) (by decide +kernel) rfl ?_
  refine zG_scr (by decide +kernel) fun hb74 => ?_
  refine zG_run t_Law [(.aload_n 0, 0, 0), (.iload 4, 0, 0), (.iconst 2, 0, 0), (.iadd, 0, 0)] (621, [some (zr (some (200, zSO))), some (zr (some (0, 0))), some (zr (some (11, 333))), some (zr (some (106, 380))), some (zi v4), some (zi x73.1), none], [zi (v4 + 2), zr (some (200, zSO)), zi (X.2 (v4 + 1).toNatClampNeg), zr (some (11, 333))], x73.2) (by decide +kernel) rfl ?_
  refine zG_scr (by decide +kernel) fun hb75 => ?_
  refine zG_callV (idx := 108) (R := (fun a => (some (zi a.1), a.2))) (as := [zi (X.2 (v4 + 1).toNatClampNeg), zi (X.2 (v4 + 2).toNatClampNeg)]) (rest := []) (n := 2) (fun a ha => c_Mod_test hl ha) (by decide +kernel) ⟨ok_Mod_test, by decide, by decide +kernel⟩ rfl wl_40 wl_41 wl_42 (by decide) rfl rfl rfl (Nat.le_of_ble_eq_true rfl) fun x76 => ?_
  refine zG_run t_Law [(.istore 6, 0, 0), (.aload_n 2, 0, 0)] (628, [some (zr (some (200, zSO))), some (zr (some (0, 0))), some (zr (some (11, 333))), some (zr (some (106, 380))), some (zi v4), some (zi x73.1), some (zi x76.1)], [zr (some (11, 333))], x76.2) (by decide +kernel) rfl ?_
  refine zG_callV (idx := 85) (R := (fun a => (some (zi a), x76.2))) (as := []) (rest := []) (n := 0) (fun a ha => c_Mod_thrown hl ha) (by decide +kernel) ⟨ok_Mod_thrown, by decide, by decide +kernel⟩ rfl wl_9 wl_10 wl_11 (by decide) rfl rfl rfl (Nat.le_of_ble_eq_true rfl) fun x77 => ?_
  refine zG_run t_Law [(.iload 5, 0, 0)] (633, [some (zr (some (200, zSO))), some (zr (some (0, 0))), some (zr (some (11, 333))), some (zr (some (106, 380))), some (zi v4), some (zi x73.1), some (zi x76.1)], [zi x73.1, zi x77], x76.2) (by decide +kernel) rfl ?_
  refine zG_icmp (op := .eq) (off := 5) (tgt := 638) (by decide +kernel) rfl Iff.rfl (fun c80 => ?_) (fun c80 => ?_)
  · refine zG_run t_Law [(.iload 5, 0, 0)] (640, [some (zr (some (200, zSO))), some (zr (some (0, 0))), some (zr (some (11, 333))), some (zr (some (106, 380))), some (zi v4), some (zi x73.1), some (zi x76.1)], [zi x73.1], x76.2) (by decide +kernel) rfl ?_
    refine zG_if (op := .ne) (off := 15) (tgt := 655) (by decide +kernel) rfl Iff.rfl (fun c79 => ?_) (fun c79 => ?_)
    · refine zG_run t_Law [(.goto 1044, 0, 0), (.iinc 4 6, 0, 0), (.goto (-1679), 0, 0)] (23, [some (zr (some (200, zSO))), some (zr (some (0, 0))), some (zr (some (11, 333))), some (zr (some (106, 380))), some (zi (v4 + 6)), some (zi x73.1), some (zi x76.1)], [], x76.2) (by decide +kernel) rfl ?_
      exact zG_end (L' := [some (zr (some (200, zSO))), some (zr (some (0, 0))), some (zr (some (11, 333))), some (zr (some (106, 380))), some (zi (v4 + 6)), none, none]) rfl (And.intro rfl (And.intro rfl (And.intro rfl (And.intro rfl (And.intro rfl trivial)))))
    · refine zG_run t_Law [(.aload_n 3, 0, 0), (.iconst 0, 0, 0)] (645, [some (zr (some (200, zSO))), some (zr (some (0, 0))), some (zr (some (11, 333))), some (zr (some (106, 380))), some (zi v4), some (zi x73.1), some (zi x76.1)], [zi 0, zr (some (106, 380))], x76.2) (by decide +kernel) rfl ?_
      refine zG_aldc (v := zl (x76.2.2.1 380 0)) rfl (by decide +kernel) (by decide +kernel) rfl ?_
      refine zG_run t_Law [(.iload 6, 0, 0), (.i2l, 0, 0), (.lcmp, 0, 0)] (650, [some (zr (some (200, zSO))), some (zr (some (0, 0))), some (zr (some (11, 333))), some (zr (some (106, 380))), some (zi v4), some (zi x73.1), some (zi x76.1)], [zi (lg_cmp (x76.2.2.1 380 0) x76.1.toInt64)], x76.2) (by decide +kernel) rfl ?_
      refine zG_if (op := .eq) (off := 5) (tgt := 655) (by decide +kernel) rfl zcmp0 (fun c78 => ?_) (fun c78 => ?_)
      · refine zG_run t_Law [(.goto 1044, 0, 0), (.iinc 4 6, 0, 0), (.goto (-1679), 0, 0)] (23, [some (zr (some (200, zSO))), some (zr (some (0, 0))), some (zr (some (11, 333))), some (zr (some (106, 380))), some (zi (v4 + 6)), some (zi x73.1), some (zi x76.1)], [], x76.2) (by decide +kernel) rfl ?_
        exact zG_end (L' := [some (zr (some (200, zSO))), some (zr (some (0, 0))), some (zr (some (11, 333))), some (zr (some (106, 380))), some (zi (v4 + 6)), none, none]) rfl (And.intro rfl (And.intro rfl (And.intro rfl (And.intro rfl (And.intro rfl trivial)))))
      · exact zG_none
  · exact zG_none
set_option maxRecDepth 20000 in
set_option maxHeartbeats 4000000 in
theorem k_law_a8 {l : Launch} {X : zX} (hl : l.stackTraces = false) {h : zH} {v4 : Int32} : zGl l m_law X 3 18 ((
                        zg (zb (v4 + 1) X.1) <|
                          zg (zb (v4 + 2) X.1) <|
                          (f_L_row h (X.2 (v4 + 1).toNatClampNeg) (X.2 (v4 + 2).toNatClampNeg)).bind fun x84 =>
                          zg (zb (v4 + 1) X.1) <|
                          zg (zb (v4 + 2) X.1) <|
                          (f_Mod_row x84.2 (X.2 (v4 + 1).toNatClampNeg) (X.2 (v4 + 2).toNatClampNeg)).bind fun x87 =>
                          (f_Mod_thrown x87.2).bind fun x88 =>
                          if x88 = x84.1 then (
                          if ¬ x84.1 = 0 then (
                            some (.inl ((v4 + 6), x87.2))) else (
                            if (x87.2.2.1 380 0) = x87.1.toInt64 then (
                              some (.inl ((v4 + 6), x87.2))) else (
                              none))) else (
                          none)) : Option ((Int32 × zH) ⊕ zH)) (658, [some (zr (some (200, zSO))), some (zr (some (0, 0))), some (zr (some (11, 333))), some (zr (some (106, 380))), some (zi v4), none, none], [], h) (Sum.elim (fun s : Int32 × zH => .inl (23, [some (zr (some (200, zSO))), some (zr (some (0, 0))), some (zr (some (11, 333))), some (zr (some (106, 380))), some (zi s.1), none, none], [], s.2)) (fun y : zH => .inl (1705, [none, none, none, none, none, none, none], [], y))) := by
  refine zG_run t_Law [(.aload_n 1, 0, 0), (.aload_n 0, 0, 0), (.iload 4, 0, 0), (.iconst 1, 0, 0), (.iadd, 0, 0)] (664, [some (zr (some (200, zSO))), some (zr (some (0, 0))), some (zr (some (11, 333))), some (zr (some (106, 380))), some (zi v4), none, none], [zi (v4 + 1), zr (some (200, zSO)), zr (some (0, 0))], h) (by decide +kernel) rfl ?_
  refine zG_scr (by decide +kernel) fun hb82 => ?_
  refine zG_run t_Law [(.aload_n 0, 0, 0), (.iload 4, 0, 0), (.iconst 2, 0, 0), (.iadd, 0, 0)] (670, [some (zr (some (200, zSO))), some (zr (some (0, 0))), some (zr (some (11, 333))), some (zr (some (106, 380))), some (zi v4), none, none], [zi (v4 + 2), zr (some (200, zSO)), zi (X.2 (v4 + 1).toNatClampNeg), zr (some (0, 0))], h) (by decide +kernel) rfl ?_
  refine zG_scr (by decide +kernel) fun hb83 => ?_
  refine zG_run t_Law [(.aload_n 3, 0, 0)] (672, [some (zr (some (200, zSO))), some (zr (some (0, 0))), some (zr (some (11, 333))), some (zr (some (106, 380))), some (zi v4), none, none], [zr (some (106, 380)), zi (X.2 (v4 + 2).toNatClampNeg), zi (X.2 (v4 + 1).toNatClampNeg), zr (some (0, 0))], h) (by decide +kernel) rfl ?_
  refine zG_mono (bc' := 0 + 2) (bs' := 0 + 12) (by decide) (by decide) ?_
  refine zG_callSX (idx := 109) (as := [zr (some (0, 0)), zi (X.2 (v4 + 1).toNatClampNeg), zi (X.2 (v4 + 2).toNatClampNeg), zr (some (106, 380))]) (rest := []) (n := 4) (fun a ha => c_L_row hl ha) (by decide +kernel) ⟨ok_L_row, by decide, by decide +kernel⟩ rfl wl_48 wl_49 rfl rfl (Nat.le_of_ble_eq_true rfl) fun x84 => ?_
  refine zG_run t_Law [(.istore 5, 0, 0), (.aload_n 2, 0, 0), (.aload_n 0, 0, 0), (.iload 4, 0, 0), (.iconst 1, 0, 0), (.iadd, 0, 0)] (683, [some (zr (some (200, zSO))), some (zr (some (0, 0))), some (zr (some (11, 333))), some (zr (some (106, 380))), some (zi v4), some (zi x84.1), none], [zi (v4 + 1), zr (some (200, zSO)), zr (some (11, 333))], x84.2) (by decide +kernel) rfl ?_
  refine zG_scr (by decide +kernel) fun hb85 => ?_
  refine zG_run t_Law [(.aload_n 0, 0, 0), (.iload 4, 0, 0), (.iconst 2, 0, 0), (.iadd, 0, 0)] (689, [some (zr (some (200, zSO))), some (zr (some (0, 0))), some (zr (some (11, 333))), some (zr (some (106, 380))), some (zi v4), some (zi x84.1), none], [zi (v4 + 2), zr (some (200, zSO)), zi (X.2 (v4 + 1).toNatClampNeg), zr (some (11, 333))], x84.2) (by decide +kernel) rfl ?_
  refine zG_scr (by decide +kernel) fun hb86 => ?_
  refine zG_callV (idx := 111) (R := (fun a => (some (zi a.1), a.2))) (as := [zi (X.2 (v4 + 1).toNatClampNeg), zi (X.2 (v4 + 2).toNatClampNeg)]) (rest := []) (n := 2) (fun a ha => c_Mod_row hl ha) (by decide +kernel) ⟨ok_Mod_row, by decide, by decide +kernel⟩ rfl wl_45 wl_46 wl_47 (by decide) rfl rfl rfl (Nat.le_of_ble_eq_true rfl) fun x87 => ?_
  refine zG_run t_Law [(.istore 6, 0, 0), (.aload_n 2, 0, 0)] (696, [some (zr (some (200, zSO))), some (zr (some (0, 0))), some (zr (some (11, 333))), some (zr (some (106, 380))), some (zi v4), some (zi x84.1), some (zi x87.1)], [zr (some (11, 333))], x87.2) (by decide +kernel) rfl ?_
  refine zG_callV (idx := 85) (R := (fun a => (some (zi a), x87.2))) (as := []) (rest := []) (n := 0) (fun a ha => c_Mod_thrown hl ha) (by decide +kernel) ⟨ok_Mod_thrown, by decide, by decide +kernel⟩ rfl wl_9 wl_10 wl_11 (by decide) rfl rfl rfl (Nat.le_of_ble_eq_true rfl) fun x88 => ?_
  refine zG_run t_Law [(.iload 5, 0, 0)] (701, [some (zr (some (200, zSO))), some (zr (some (0, 0))), some (zr (some (11, 333))), some (zr (some (106, 380))), some (zi v4), some (zi x84.1), some (zi x87.1)], [zi x84.1, zi x88], x87.2) (by decide +kernel) rfl ?_
  refine zG_icmp (op := .eq) (off := 5) (tgt := 706) (by decide +kernel) rfl Iff.rfl (fun c91 => ?_) (fun c91 => ?_)
  · refine zG_run t_Law [(.iload 5, 0, 0)] (708, [some (zr (some (200, zSO))), some (zr (some (0, 0))), some (zr (some (11, 333))), some (zr (some (106, 380))), some (zi v4), some (zi x84.1), some (zi x87.1)], [zi x84.1], x87.2) (by decide +kernel) rfl ?_
    refine zG_if (op := .ne) (off := 15) (tgt := 723) (by decide +kernel) rfl Iff.rfl (fun c90 => ?_) (fun c90 => ?_)
    · refine zG_run t_Law [(.goto 976, 0, 0), (.iinc 4 6, 0, 0), (.goto (-1679), 0, 0)] (23, [some (zr (some (200, zSO))), some (zr (some (0, 0))), some (zr (some (11, 333))), some (zr (some (106, 380))), some (zi (v4 + 6)), some (zi x84.1), some (zi x87.1)], [], x87.2) (by decide +kernel) rfl ?_
      exact zG_end (L' := [some (zr (some (200, zSO))), some (zr (some (0, 0))), some (zr (some (11, 333))), some (zr (some (106, 380))), some (zi (v4 + 6)), none, none]) rfl (And.intro rfl (And.intro rfl (And.intro rfl (And.intro rfl (And.intro rfl trivial)))))
    · refine zG_run t_Law [(.aload_n 3, 0, 0), (.iconst 0, 0, 0)] (713, [some (zr (some (200, zSO))), some (zr (some (0, 0))), some (zr (some (11, 333))), some (zr (some (106, 380))), some (zi v4), some (zi x84.1), some (zi x87.1)], [zi 0, zr (some (106, 380))], x87.2) (by decide +kernel) rfl ?_
      refine zG_aldc (v := zl (x87.2.2.1 380 0)) rfl (by decide +kernel) (by decide +kernel) rfl ?_
      refine zG_run t_Law [(.iload 6, 0, 0), (.i2l, 0, 0), (.lcmp, 0, 0)] (718, [some (zr (some (200, zSO))), some (zr (some (0, 0))), some (zr (some (11, 333))), some (zr (some (106, 380))), some (zi v4), some (zi x84.1), some (zi x87.1)], [zi (lg_cmp (x87.2.2.1 380 0) x87.1.toInt64)], x87.2) (by decide +kernel) rfl ?_
      refine zG_if (op := .eq) (off := 5) (tgt := 723) (by decide +kernel) rfl zcmp0 (fun c89 => ?_) (fun c89 => ?_)
      · refine zG_run t_Law [(.goto 976, 0, 0), (.iinc 4 6, 0, 0), (.goto (-1679), 0, 0)] (23, [some (zr (some (200, zSO))), some (zr (some (0, 0))), some (zr (some (11, 333))), some (zr (some (106, 380))), some (zi (v4 + 6)), some (zi x84.1), some (zi x87.1)], [], x87.2) (by decide +kernel) rfl ?_
        exact zG_end (L' := [some (zr (some (200, zSO))), some (zr (some (0, 0))), some (zr (some (11, 333))), some (zr (some (106, 380))), some (zi (v4 + 6)), none, none]) rfl (And.intro rfl (And.intro rfl (And.intro rfl (And.intro rfl (And.intro rfl trivial)))))
      · exact zG_none
  · exact zG_none
set_option maxRecDepth 20000 in
set_option maxHeartbeats 4000000 in
theorem k_law_a9 {l : Launch} {X : zX} (hl : l.stackTraces = false) {h : zH} {v4 : Int32} : zGl l m_law X 3 18 ((
                          zg (zb (v4 + 1) X.1) <|
                            zg (zb (v4 + 2) X.1) <|
                            (f_L_cube h (X.2 (v4 + 1).toNatClampNeg) (X.2 (v4 + 2).toNatClampNeg)).bind fun x95 =>
                            zg (zb (v4 + 1) X.1) <|
                            zg (zb (v4 + 2) X.1) <|
                            (f_Mod_cube x95.2 (X.2 (v4 + 1).toNatClampNeg) (X.2 (v4 + 2).toNatClampNeg)).bind fun x98 =>
                            (f_Mod_thrown x98.2).bind fun x99 =>
                            if x99 = x95.1 then (
                            if ¬ x95.1 = 0 then (
                              some (.inl ((v4 + 6), x98.2))) else (
                              if (x98.2.2.1 380 0) = x98.1.toInt64 then (
                                some (.inl ((v4 + 6), x98.2))) else (
                                none))) else (
                            none)) : Option ((Int32 × zH) ⊕ zH)) (726, [some (zr (some (200, zSO))), some (zr (some (0, 0))), some (zr (some (11, 333))), some (zr (some (106, 380))), some (zi v4), none, none], [], h) (Sum.elim (fun s : Int32 × zH => .inl (23, [some (zr (some (200, zSO))), some (zr (some (0, 0))), some (zr (some (11, 333))), some (zr (some (106, 380))), some (zi s.1), none, none], [], s.2)) (fun y : zH => .inl (1705, [none, none, none, none, none, none, none], [], y))) := by
  refine zG_run t_Law [(.aload_n 1, 0, 0), (.aload_n 0, 0, 0), (.iload 4, 0, 0), (.iconst 1, 0, 0), (.iadd, 0, 0)] (732, [some (zr (some (200, zSO))), some (zr (some (0, 0))), some (zr (some (11, 333))), some (zr (some (106, 380))), some (zi v4), none, none], [zi (v4 + 1), zr (some (200, zSO)), zr (some (0, 0))], h) (by decide +kernel) rfl ?_
  refine zG_scr (by decide +kernel) fun hb93 => ?_
  refine zG_run t_Law [(.aload_n 0, 0, 0), (.iload 4, 0, 0), (.iconst 2, 0, 0), (.iadd, 0, 0)] (738, [some (zr (some (200, zSO))), some (zr (some (0, 0))), some (zr (some (11, 333))), some (zr (some (106, 380))), some (zi v4), none, none], [zi (v4 + 2), zr (some (200, zSO)), zi (X.2 (v4 + 1).toNatClampNeg), zr (some (0, 0))], h) (by decide +kernel) rfl ?_
  refine zG_scr (by decide +kernel) fun hb94 => ?_
  refine zG_run t_Law [(.aload_n 3, 0, 0)] (740, [some (zr (some (200, zSO))), some (zr (some (0, 0))), some (zr (some (11, 333))), some (zr (some (106, 380))), some (zi v4), none, none], [zr (some (106, 380)), zi (X.2 (v4 + 2).toNatClampNeg), zi (X.2 (v4 + 1).toNatClampNeg), zr (some (0, 0))], h) (by decide +kernel) rfl ?_
  refine zG_mono (bc' := 0 + 2) (bs' := 0 + 12) (by decide) (by decide) ?_
  refine zG_callSX (idx := 112) (as := [zr (some (0, 0)), zi (X.2 (v4 + 1).toNatClampNeg), zi (X.2 (v4 + 2).toNatClampNeg), zr (some (106, 380))]) (rest := []) (n := 4) (fun a ha => c_L_cube hl ha) (by decide +kernel) ⟨ok_L_cube, by decide, by decide +kernel⟩ rfl wl_53 wl_54 rfl rfl (Nat.le_of_ble_eq_true rfl) fun x95 => ?_
  refine zG_run t_Law [(.istore 5, 0, 0), (.aload_n 2, 0, 0), (.aload_n 0, 0, 0), (.iload 4, 0, 0), (.iconst 1, 0, 0), (.iadd, 0, 0)] (751, [some (zr (some (200, zSO))), some (zr (some (0, 0))), some (zr (some (11, 333))), some (zr (some (106, 380))), some (zi v4), some (zi x95.1), none], [zi (v4 + 1), zr (some (200, zSO)), zr (some (11, 333))], x95.2) (by decide +kernel) rfl ?_
  refine zG_scr (by decide +kernel) fun hb96 => ?_
  refine zG_run t_Law [(.aload_n 0, 0, 0), (.iload 4, 0, 0), (.iconst 2, 0, 0), (.iadd, 0, 0)] (757, [some (zr (some (200, zSO))), some (zr (some (0, 0))), some (zr (some (11, 333))), some (zr (some (106, 380))), some (zi v4), some (zi x95.1), none], [zi (v4 + 2), zr (some (200, zSO)), zi (X.2 (v4 + 1).toNatClampNeg), zr (some (11, 333))], x95.2) (by decide +kernel) rfl ?_
  refine zG_scr (by decide +kernel) fun hb97 => ?_
  refine zG_callV (idx := 114) (R := (fun a => (some (zi a.1), a.2))) (as := [zi (X.2 (v4 + 1).toNatClampNeg), zi (X.2 (v4 + 2).toNatClampNeg)]) (rest := []) (n := 2) (fun a ha => c_Mod_cube hl ha) (by decide +kernel) ⟨ok_Mod_cube, by decide, by decide +kernel⟩ rfl wl_50 wl_51 wl_52 (by decide) rfl rfl rfl (Nat.le_of_ble_eq_true rfl) fun x98 => ?_
  refine zG_run t_Law [(.istore 6, 0, 0), (.aload_n 2, 0, 0)] (764, [some (zr (some (200, zSO))), some (zr (some (0, 0))), some (zr (some (11, 333))), some (zr (some (106, 380))), some (zi v4), some (zi x95.1), some (zi x98.1)], [zr (some (11, 333))], x98.2) (by decide +kernel) rfl ?_
  refine zG_callV (idx := 85) (R := (fun a => (some (zi a), x98.2))) (as := []) (rest := []) (n := 0) (fun a ha => c_Mod_thrown hl ha) (by decide +kernel) ⟨ok_Mod_thrown, by decide, by decide +kernel⟩ rfl wl_9 wl_10 wl_11 (by decide) rfl rfl rfl (Nat.le_of_ble_eq_true rfl) fun x99 => ?_
  refine zG_run t_Law [(.iload 5, 0, 0)] (769, [some (zr (some (200, zSO))), some (zr (some (0, 0))), some (zr (some (11, 333))), some (zr (some (106, 380))), some (zi v4), some (zi x95.1), some (zi x98.1)], [zi x95.1, zi x99], x98.2) (by decide +kernel) rfl ?_
  refine zG_icmp (op := .eq) (off := 5) (tgt := 774) (by decide +kernel) rfl Iff.rfl (fun c102 => ?_) (fun c102 => ?_)
  · refine zG_run t_Law [(.iload 5, 0, 0)] (776, [some (zr (some (200, zSO))), some (zr (some (0, 0))), some (zr (some (11, 333))), some (zr (some (106, 380))), some (zi v4), some (zi x95.1), some (zi x98.1)], [zi x95.1], x98.2) (by decide +kernel) rfl ?_
    refine zG_if (op := .ne) (off := 15) (tgt := 791) (by decide +kernel) rfl Iff.rfl (fun c101 => ?_) (fun c101 => ?_)
    · refine zG_run t_Law [(.goto 908, 0, 0), (.iinc 4 6, 0, 0), (.goto (-1679), 0, 0)] (23, [some (zr (some (200, zSO))), some (zr (some (0, 0))), some (zr (some (11, 333))), some (zr (some (106, 380))), some (zi (v4 + 6)), some (zi x95.1), some (zi x98.1)], [], x98.2) (by decide +kernel) rfl ?_
      exact zG_end (L' := [some (zr (some (200, zSO))), some (zr (some (0, 0))), some (zr (some (11, 333))), some (zr (some (106, 380))), some (zi (v4 + 6)), none, none]) rfl (And.intro rfl (And.intro rfl (And.intro rfl (And.intro rfl (And.intro rfl trivial)))))
    · refine zG_run t_Law [(.aload_n 3, 0, 0), (.iconst 0, 0, 0)] (781, [some (zr (some (200, zSO))), some (zr (some (0, 0))), some (zr (some (11, 333))), some (zr (some (106, 380))), some (zi v4), some (zi x95.1), some (zi x98.1)], [zi 0, zr (some (106, 380))], x98.2) (by decide +kernel) rfl ?_
      refine zG_aldc (v := zl (x98.2.2.1 380 0)) rfl (by decide +kernel) (by decide +kernel) rfl ?_
      refine zG_run t_Law [(.iload 6, 0, 0), (.i2l, 0, 0), (.lcmp, 0, 0)] (786, [some (zr (some (200, zSO))), some (zr (some (0, 0))), some (zr (some (11, 333))), some (zr (some (106, 380))), some (zi v4), some (zi x95.1), some (zi x98.1)], [zi (lg_cmp (x98.2.2.1 380 0) x98.1.toInt64)], x98.2) (by decide +kernel) rfl ?_
      refine zG_if (op := .eq) (off := 5) (tgt := 791) (by decide +kernel) rfl zcmp0 (fun c100 => ?_) (fun c100 => ?_)
      · refine zG_run t_Law [(.goto 908, 0, 0), (.iinc 4 6, 0, 0), (.goto (-1679), 0, 0)] (23, [some (zr (some (200, zSO))), some (zr (some (0, 0))), some (zr (some (11, 333))), some (zr (some (106, 380))), some (zi (v4 + 6)), some (zi x95.1), some (zi x98.1)], [], x98.2) (by decide +kernel) rfl ?_
        exact zG_end (L' := [some (zr (some (200, zSO))), some (zr (some (0, 0))), some (zr (some (11, 333))), some (zr (some (106, 380))), some (zi (v4 + 6)), none, none]) rfl (And.intro rfl (And.intro rfl (And.intro rfl (And.intro rfl (And.intro rfl trivial)))))
      · exact zG_none
  · exact zG_none
set_option maxRecDepth 20000 in
set_option maxHeartbeats 4000000 in
theorem k_law_a10 {l : Launch} {X : zX} (hl : l.stackTraces = false) {h : zH} {v4 : Int32} : zGl l m_law X 3 18 ((
                            zg (zb (v4 + 1) X.1) <|
                              zg (zb (v4 + 2) X.1) <|
                              zg (zb (v4 + 3) X.1) <|
                              (f_L_by h (X.2 (v4 + 1).toNatClampNeg) (X.2 (v4 + 2).toNatClampNeg) (X.2 (v4 + 3).toNatClampNeg)).bind fun x107 =>
                              zg (zb (v4 + 1) X.1) <|
                              zg (zb (v4 + 2) X.1) <|
                              zg (zb (v4 + 3) X.1) <|
                              (f_Mod_by x107.2 (X.2 (v4 + 1).toNatClampNeg) (X.2 (v4 + 2).toNatClampNeg) (X.2 (v4 + 3).toNatClampNeg)).bind fun x111 =>
                              (f_Mod_thrown x111.2).bind fun x112 =>
                              if x112 = x107.1 then (
                              if ¬ x107.1 = 0 then (
                                some (.inl ((v4 + 6), x111.2))) else (
                                if (x111.2.2.1 380 0) = x111.1.toInt64 then (
                                  some (.inl ((v4 + 6), x111.2))) else (
                                  none))) else (
                              none)) : Option ((Int32 × zH) ⊕ zH)) (794, [some (zr (some (200, zSO))), some (zr (some (0, 0))), some (zr (some (11, 333))), some (zr (some (106, 380))), some (zi v4), none, none], [], h) (Sum.elim (fun s : Int32 × zH => .inl (23, [some (zr (some (200, zSO))), some (zr (some (0, 0))), some (zr (some (11, 333))), some (zr (some (106, 380))), some (zi s.1), none, none], [], s.2)) (fun y : zH => .inl (1705, [none, none, none, none, none, none, none], [], y))) := by
  refine zG_run t_Law [(.aload_n 1, 0, 0), (.aload_n 0, 0, 0), (.iload 4, 0, 0), (.iconst 1, 0, 0), (.iadd, 0, 0)] (800, [some (zr (some (200, zSO))), some (zr (some (0, 0))), some (zr (some (11, 333))), some (zr (some (106, 380))), some (zi v4), none, none], [zi (v4 + 1), zr (some (200, zSO)), zr (some (0, 0))], h) (by decide +kernel) rfl ?_
  refine zG_scr (by decide +kernel) fun hb104 => ?_
  refine zG_run t_Law [(.aload_n 0, 0, 0), (.iload 4, 0, 0), (.iconst 2, 0, 0), (.iadd, 0, 0)] (806, [some (zr (some (200, zSO))), some (zr (some (0, 0))), some (zr (some (11, 333))), some (zr (some (106, 380))), some (zi v4), none, none], [zi (v4 + 2), zr (some (200, zSO)), zi (X.2 (v4 + 1).toNatClampNeg), zr (some (0, 0))], h) (by decide +kernel) rfl ?_
  refine zG_scr (by decide +kernel) fun hb105 => ?_
  refine zG_run t_Law [(.aload_n 0, 0, 0), (.iload 4, 0, 0), (.iconst 3, 0, 0), (.iadd, 0, 0)] (812, [some (zr (some (200, zSO))), some (zr (some (0, 0))), some (zr (some (11, 333))), some (zr (some (106, 380))), some (zi v4), none, none], [zi (v4 + 3), zr (some (200, zSO)), zi (X.2 (v4 + 2).toNatClampNeg), zi (X.2 (v4 + 1).toNatClampNeg), zr (some (0, 0))], h) (by decide +kernel) rfl ?_
  refine zG_scr (by decide +kernel) fun hb106 => ?_
  refine zG_run t_Law [(.aload_n 3, 0, 0)] (814, [some (zr (some (200, zSO))), some (zr (some (0, 0))), some (zr (some (11, 333))), some (zr (some (106, 380))), some (zi v4), none, none], [zr (some (106, 380)), zi (X.2 (v4 + 3).toNatClampNeg), zi (X.2 (v4 + 2).toNatClampNeg), zi (X.2 (v4 + 1).toNatClampNeg), zr (some (0, 0))], h) (by decide +kernel) rfl ?_
  refine zG_mono (bc' := 0 + 3) (bs' := 0 + 18) (by decide) (by decide) ?_
  refine zG_callSX (idx := 115) (as := [zr (some (0, 0)), zi (X.2 (v4 + 1).toNatClampNeg), zi (X.2 (v4 + 2).toNatClampNeg), zi (X.2 (v4 + 3).toNatClampNeg), zr (some (106, 380))]) (rest := []) (n := 5) (fun a ha => c_L_by hl ha) (by decide +kernel) ⟨ok_L_by, by decide, by decide +kernel⟩ rfl wl_58 wl_59 rfl rfl (Nat.le_of_ble_eq_true rfl) fun x107 => ?_
  refine zG_run t_Law [(.istore 5, 0, 0), (.aload_n 2, 0, 0), (.aload_n 0, 0, 0), (.iload 4, 0, 0), (.iconst 1, 0, 0), (.iadd, 0, 0)] (825, [some (zr (some (200, zSO))), some (zr (some (0, 0))), some (zr (some (11, 333))), some (zr (some (106, 380))), some (zi v4), some (zi x107.1), none], [zi (v4 + 1), zr (some (200, zSO)), zr (some (11, 333))], x107.2) (by decide +kernel) rfl ?_
  refine zG_scr (by decide +kernel) fun hb108 => ?_
  refine zG_run t_Law [(.aload_n 0, 0, 0), (.iload 4, 0, 0), (.iconst 2, 0, 0), (.iadd, 0, 0)] (831, [some (zr (some (200, zSO))), some (zr (some (0, 0))), some (zr (some (11, 333))), some (zr (some (106, 380))), some (zi v4), some (zi x107.1), none], [zi (v4 + 2), zr (some (200, zSO)), zi (X.2 (v4 + 1).toNatClampNeg), zr (some (11, 333))], x107.2) (by decide +kernel) rfl ?_
  refine zG_scr (by decide +kernel) fun hb109 => ?_
  refine zG_run t_Law [(.aload_n 0, 0, 0), (.iload 4, 0, 0), (.iconst 3, 0, 0), (.iadd, 0, 0)] (837, [some (zr (some (200, zSO))), some (zr (some (0, 0))), some (zr (some (11, 333))), some (zr (some (106, 380))), some (zi v4), some (zi x107.1), none], [zi (v4 + 3), zr (some (200, zSO)), zi (X.2 (v4 + 2).toNatClampNeg), zi (X.2 (v4 + 1).toNatClampNeg), zr (some (11, 333))], x107.2) (by decide +kernel) rfl ?_
  refine zG_scr (by decide +kernel) fun hb110 => ?_
  refine zG_callV (idx := 118) (R := (fun a => (some (zi a.1), a.2))) (as := [zi (X.2 (v4 + 1).toNatClampNeg), zi (X.2 (v4 + 2).toNatClampNeg), zi (X.2 (v4 + 3).toNatClampNeg)]) (rest := []) (n := 3) (fun a ha => c_Mod_by hl ha) (by decide +kernel) ⟨ok_Mod_by, by decide, by decide +kernel⟩ rfl wl_55 wl_56 wl_57 (by decide) rfl rfl rfl (Nat.le_of_ble_eq_true rfl) fun x111 => ?_
  refine zG_run t_Law [(.istore 6, 0, 0), (.aload_n 2, 0, 0)] (844, [some (zr (some (200, zSO))), some (zr (some (0, 0))), some (zr (some (11, 333))), some (zr (some (106, 380))), some (zi v4), some (zi x107.1), some (zi x111.1)], [zr (some (11, 333))], x111.2) (by decide +kernel) rfl ?_
  refine zG_callV (idx := 85) (R := (fun a => (some (zi a), x111.2))) (as := []) (rest := []) (n := 0) (fun a ha => c_Mod_thrown hl ha) (by decide +kernel) ⟨ok_Mod_thrown, by decide, by decide +kernel⟩ rfl wl_9 wl_10 wl_11 (by decide) rfl rfl rfl (Nat.le_of_ble_eq_true rfl) fun x112 => ?_
  refine zG_run t_Law [(.iload 5, 0, 0)] (849, [some (zr (some (200, zSO))), some (zr (some (0, 0))), some (zr (some (11, 333))), some (zr (some (106, 380))), some (zi v4), some (zi x107.1), some (zi x111.1)], [zi x107.1, zi x112], x111.2) (by decide +kernel) rfl ?_
  refine zG_icmp (op := .eq) (off := 5) (tgt := 854) (by decide +kernel) rfl Iff.rfl (fun c115 => ?_) (fun c115 => ?_)
  · refine zG_run t_Law [(.iload 5, 0, 0)] (856, [some (zr (some (200, zSO))), some (zr (some (0, 0))), some (zr (some (11, 333))), some (zr (some (106, 380))), some (zi v4), some (zi x107.1), some (zi x111.1)], [zi x107.1], x111.2) (by decide +kernel) rfl ?_
    refine zG_if (op := .ne) (off := 15) (tgt := 871) (by decide +kernel) rfl Iff.rfl (fun c114 => ?_) (fun c114 => ?_)
    · refine zG_run t_Law [(.goto 828, 0, 0), (.iinc 4 6, 0, 0), (.goto (-1679), 0, 0)] (23, [some (zr (some (200, zSO))), some (zr (some (0, 0))), some (zr (some (11, 333))), some (zr (some (106, 380))), some (zi (v4 + 6)), some (zi x107.1), some (zi x111.1)], [], x111.2) (by decide +kernel) rfl ?_
      exact zG_end (L' := [some (zr (some (200, zSO))), some (zr (some (0, 0))), some (zr (some (11, 333))), some (zr (some (106, 380))), some (zi (v4 + 6)), none, none]) rfl (And.intro rfl (And.intro rfl (And.intro rfl (And.intro rfl (And.intro rfl trivial)))))
    · refine zG_run t_Law [(.aload_n 3, 0, 0), (.iconst 0, 0, 0)] (861, [some (zr (some (200, zSO))), some (zr (some (0, 0))), some (zr (some (11, 333))), some (zr (some (106, 380))), some (zi v4), some (zi x107.1), some (zi x111.1)], [zi 0, zr (some (106, 380))], x111.2) (by decide +kernel) rfl ?_
      refine zG_aldc (v := zl (x111.2.2.1 380 0)) rfl (by decide +kernel) (by decide +kernel) rfl ?_
      refine zG_run t_Law [(.iload 6, 0, 0), (.i2l, 0, 0), (.lcmp, 0, 0)] (866, [some (zr (some (200, zSO))), some (zr (some (0, 0))), some (zr (some (11, 333))), some (zr (some (106, 380))), some (zi v4), some (zi x107.1), some (zi x111.1)], [zi (lg_cmp (x111.2.2.1 380 0) x111.1.toInt64)], x111.2) (by decide +kernel) rfl ?_
      refine zG_if (op := .eq) (off := 5) (tgt := 871) (by decide +kernel) rfl zcmp0 (fun c113 => ?_) (fun c113 => ?_)
      · refine zG_run t_Law [(.goto 828, 0, 0), (.iinc 4 6, 0, 0), (.goto (-1679), 0, 0)] (23, [some (zr (some (200, zSO))), some (zr (some (0, 0))), some (zr (some (11, 333))), some (zr (some (106, 380))), some (zi (v4 + 6)), some (zi x107.1), some (zi x111.1)], [], x111.2) (by decide +kernel) rfl ?_
        exact zG_end (L' := [some (zr (some (200, zSO))), some (zr (some (0, 0))), some (zr (some (11, 333))), some (zr (some (106, 380))), some (zi (v4 + 6)), none, none]) rfl (And.intro rfl (And.intro rfl (And.intro rfl (And.intro rfl (And.intro rfl trivial)))))
      · exact zG_none
  · exact zG_none
set_option maxRecDepth 20000 in
set_option maxHeartbeats 4000000 in
theorem k_law_a11 {l : Launch} {X : zX} (hl : l.stackTraces = false) {h : zH} {v4 : Int32} : zGl l m_law X 3 18 ((
                              zg (zb (v4 + 1) X.1) <|
                                zg (zb (v4 + 2) X.1) <|
                                (f_L_program h (X.2 (v4 + 1).toNatClampNeg) (X.2 (v4 + 2).toNatClampNeg)).bind fun x119 =>
                                zg (zb (v4 + 1) X.1) <|
                                zg (zb (v4 + 2) X.1) <|
                                (f_Mod_program x119.2 (X.2 (v4 + 1).toNatClampNeg) (X.2 (v4 + 2).toNatClampNeg)).bind fun x122 =>
                                (f_Mod_thrown x122.2).bind fun x123 =>
                                if x123 = x119.1 then (
                                if ¬ x119.1 = 0 then (
                                  some (.inl ((v4 + 6), x122.2))) else (
                                  if (x122.2.2.1 380 0) = x122.1.toInt64 then (
                                    some (.inl ((v4 + 6), x122.2))) else (
                                    none))) else (
                                none)) : Option ((Int32 × zH) ⊕ zH)) (874, [some (zr (some (200, zSO))), some (zr (some (0, 0))), some (zr (some (11, 333))), some (zr (some (106, 380))), some (zi v4), none, none], [], h) (Sum.elim (fun s : Int32 × zH => .inl (23, [some (zr (some (200, zSO))), some (zr (some (0, 0))), some (zr (some (11, 333))), some (zr (some (106, 380))), some (zi s.1), none, none], [], s.2)) (fun y : zH => .inl (1705, [none, none, none, none, none, none, none], [], y))) := by
  refine zG_run t_Law [(.aload_n 1, 0, 0), (.aload_n 0, 0, 0), (.iload 4, 0, 0), (.iconst 1, 0, 0), (.iadd, 0, 0)] (880, [some (zr (some (200, zSO))), some (zr (some (0, 0))), some (zr (some (11, 333))), some (zr (some (106, 380))), some (zi v4), none, none], [zi (v4 + 1), zr (some (200, zSO)), zr (some (0, 0))], h) (by decide +kernel) rfl ?_
  refine zG_scr (by decide +kernel) fun hb117 => ?_
  refine zG_run t_Law [(.aload_n 0, 0, 0), (.iload 4, 0, 0), (.iconst 2, 0, 0), (.iadd, 0, 0)] (886, [some (zr (some (200, zSO))), some (zr (some (0, 0))), some (zr (some (11, 333))), some (zr (some (106, 380))), some (zi v4), none, none], [zi (v4 + 2), zr (some (200, zSO)), zi (X.2 (v4 + 1).toNatClampNeg), zr (some (0, 0))], h) (by decide +kernel) rfl ?_
  refine zG_scr (by decide +kernel) fun hb118 => ?_
  refine zG_run t_Law [(.aload_n 3, 0, 0)] (888, [some (zr (some (200, zSO))), some (zr (some (0, 0))), some (zr (some (11, 333))), some (zr (some (106, 380))), some (zi v4), none, none], [zr (some (106, 380)), zi (X.2 (v4 + 2).toNatClampNeg), zi (X.2 (v4 + 1).toNatClampNeg), zr (some (0, 0))], h) (by decide +kernel) rfl ?_
  refine zG_mono (bc' := 0 + 1) (bs' := 0 + 6) (by decide) (by decide) ?_
  refine zG_callSX (idx := 119) (as := [zr (some (0, 0)), zi (X.2 (v4 + 1).toNatClampNeg), zi (X.2 (v4 + 2).toNatClampNeg), zr (some (106, 380))]) (rest := []) (n := 4) (fun a ha => c_L_program hl ha) (by decide +kernel) ⟨ok_L_program, by decide, by decide +kernel⟩ rfl wl_63 wl_64 rfl rfl (Nat.le_of_ble_eq_true rfl) fun x119 => ?_
  refine zG_run t_Law [(.istore 5, 0, 0), (.aload_n 2, 0, 0), (.aload_n 0, 0, 0), (.iload 4, 0, 0), (.iconst 1, 0, 0), (.iadd, 0, 0)] (899, [some (zr (some (200, zSO))), some (zr (some (0, 0))), some (zr (some (11, 333))), some (zr (some (106, 380))), some (zi v4), some (zi x119.1), none], [zi (v4 + 1), zr (some (200, zSO)), zr (some (11, 333))], x119.2) (by decide +kernel) rfl ?_
  refine zG_scr (by decide +kernel) fun hb120 => ?_
  refine zG_run t_Law [(.aload_n 0, 0, 0), (.iload 4, 0, 0), (.iconst 2, 0, 0), (.iadd, 0, 0)] (905, [some (zr (some (200, zSO))), some (zr (some (0, 0))), some (zr (some (11, 333))), some (zr (some (106, 380))), some (zi v4), some (zi x119.1), none], [zi (v4 + 2), zr (some (200, zSO)), zi (X.2 (v4 + 1).toNatClampNeg), zr (some (11, 333))], x119.2) (by decide +kernel) rfl ?_
  refine zG_scr (by decide +kernel) fun hb121 => ?_
  refine zG_callV (idx := 121) (R := (fun a => (some (zi a.1), a.2))) (as := [zi (X.2 (v4 + 1).toNatClampNeg), zi (X.2 (v4 + 2).toNatClampNeg)]) (rest := []) (n := 2) (fun a ha => c_Mod_program hl ha) (by decide +kernel) ⟨ok_Mod_program, by decide, by decide +kernel⟩ rfl wl_60 wl_61 wl_62 (by decide) rfl rfl rfl (Nat.le_of_ble_eq_true rfl) fun x122 => ?_
  refine zG_run t_Law [(.istore 6, 0, 0), (.aload_n 2, 0, 0)] (912, [some (zr (some (200, zSO))), some (zr (some (0, 0))), some (zr (some (11, 333))), some (zr (some (106, 380))), some (zi v4), some (zi x119.1), some (zi x122.1)], [zr (some (11, 333))], x122.2) (by decide +kernel) rfl ?_
  refine zG_callV (idx := 85) (R := (fun a => (some (zi a), x122.2))) (as := []) (rest := []) (n := 0) (fun a ha => c_Mod_thrown hl ha) (by decide +kernel) ⟨ok_Mod_thrown, by decide, by decide +kernel⟩ rfl wl_9 wl_10 wl_11 (by decide) rfl rfl rfl (Nat.le_of_ble_eq_true rfl) fun x123 => ?_
  refine zG_run t_Law [(.iload 5, 0, 0)] (917, [some (zr (some (200, zSO))), some (zr (some (0, 0))), some (zr (some (11, 333))), some (zr (some (106, 380))), some (zi v4), some (zi x119.1), some (zi x122.1)], [zi x119.1, zi x123], x122.2) (by decide +kernel) rfl ?_
  refine zG_icmp (op := .eq) (off := 5) (tgt := 922) (by decide +kernel) rfl Iff.rfl (fun c126 => ?_) (fun c126 => ?_)
  · refine zG_run t_Law [(.iload 5, 0, 0)] (924, [some (zr (some (200, zSO))), some (zr (some (0, 0))), some (zr (some (11, 333))), some (zr (some (106, 380))), some (zi v4), some (zi x119.1), some (zi x122.1)], [zi x119.1], x122.2) (by decide +kernel) rfl ?_
    refine zG_if (op := .ne) (off := 15) (tgt := 939) (by decide +kernel) rfl Iff.rfl (fun c125 => ?_) (fun c125 => ?_)
    · refine zG_run t_Law [(.goto 760, 0, 0), (.iinc 4 6, 0, 0), (.goto (-1679), 0, 0)] (23, [some (zr (some (200, zSO))), some (zr (some (0, 0))), some (zr (some (11, 333))), some (zr (some (106, 380))), some (zi (v4 + 6)), some (zi x119.1), some (zi x122.1)], [], x122.2) (by decide +kernel) rfl ?_
      exact zG_end (L' := [some (zr (some (200, zSO))), some (zr (some (0, 0))), some (zr (some (11, 333))), some (zr (some (106, 380))), some (zi (v4 + 6)), none, none]) rfl (And.intro rfl (And.intro rfl (And.intro rfl (And.intro rfl (And.intro rfl trivial)))))
    · refine zG_run t_Law [(.aload_n 3, 0, 0), (.iconst 0, 0, 0)] (929, [some (zr (some (200, zSO))), some (zr (some (0, 0))), some (zr (some (11, 333))), some (zr (some (106, 380))), some (zi v4), some (zi x119.1), some (zi x122.1)], [zi 0, zr (some (106, 380))], x122.2) (by decide +kernel) rfl ?_
      refine zG_aldc (v := zl (x122.2.2.1 380 0)) rfl (by decide +kernel) (by decide +kernel) rfl ?_
      refine zG_run t_Law [(.iload 6, 0, 0), (.i2l, 0, 0), (.lcmp, 0, 0)] (934, [some (zr (some (200, zSO))), some (zr (some (0, 0))), some (zr (some (11, 333))), some (zr (some (106, 380))), some (zi v4), some (zi x119.1), some (zi x122.1)], [zi (lg_cmp (x122.2.2.1 380 0) x122.1.toInt64)], x122.2) (by decide +kernel) rfl ?_
      refine zG_if (op := .eq) (off := 5) (tgt := 939) (by decide +kernel) rfl zcmp0 (fun c124 => ?_) (fun c124 => ?_)
      · refine zG_run t_Law [(.goto 760, 0, 0), (.iinc 4 6, 0, 0), (.goto (-1679), 0, 0)] (23, [some (zr (some (200, zSO))), some (zr (some (0, 0))), some (zr (some (11, 333))), some (zr (some (106, 380))), some (zi (v4 + 6)), some (zi x119.1), some (zi x122.1)], [], x122.2) (by decide +kernel) rfl ?_
        exact zG_end (L' := [some (zr (some (200, zSO))), some (zr (some (0, 0))), some (zr (some (11, 333))), some (zr (some (106, 380))), some (zi (v4 + 6)), none, none]) rfl (And.intro rfl (And.intro rfl (And.intro rfl (And.intro rfl (And.intro rfl trivial)))))
      · exact zG_none
  · exact zG_none
set_option maxRecDepth 20000 in
set_option maxHeartbeats 4000000 in
theorem k_law_a12 {l : Launch} {X : zX} (hl : l.stackTraces = false) {h : zH} {v4 : Int32} : zGl l m_law X 3 18 ((
                                zg (zb (v4 + 1) X.1) <|
                                  zg (zb (v4 + 2) X.1) <|
                                  (f_L_order h (X.2 (v4 + 1).toNatClampNeg) (X.2 (v4 + 2).toNatClampNeg)).bind fun x130 =>
                                  zg (zb (v4 + 1) X.1) <|
                                  zg (zb (v4 + 2) X.1) <|
                                  (f_Mod_order x130.2 (X.2 (v4 + 1).toNatClampNeg) (X.2 (v4 + 2).toNatClampNeg)).bind fun x133 =>
                                  (f_Mod_thrown x133.2).bind fun x134 =>
                                  if x134 = x130.1 then (
                                  if ¬ x130.1 = 0 then (
                                    some (.inl ((v4 + 6), x133.2))) else (
                                    if (x133.2.2.1 380 0) = x133.1.toInt64 then (
                                      some (.inl ((v4 + 6), x133.2))) else (
                                      none))) else (
                                  none)) : Option ((Int32 × zH) ⊕ zH)) (942, [some (zr (some (200, zSO))), some (zr (some (0, 0))), some (zr (some (11, 333))), some (zr (some (106, 380))), some (zi v4), none, none], [], h) (Sum.elim (fun s : Int32 × zH => .inl (23, [some (zr (some (200, zSO))), some (zr (some (0, 0))), some (zr (some (11, 333))), some (zr (some (106, 380))), some (zi s.1), none, none], [], s.2)) (fun y : zH => .inl (1705, [none, none, none, none, none, none, none], [], y))) := by
  refine zG_run t_Law [(.aload_n 1, 0, 0), (.aload_n 0, 0, 0), (.iload 4, 0, 0), (.iconst 1, 0, 0), (.iadd, 0, 0)] (948, [some (zr (some (200, zSO))), some (zr (some (0, 0))), some (zr (some (11, 333))), some (zr (some (106, 380))), some (zi v4), none, none], [zi (v4 + 1), zr (some (200, zSO)), zr (some (0, 0))], h) (by decide +kernel) rfl ?_
  refine zG_scr (by decide +kernel) fun hb128 => ?_
  refine zG_run t_Law [(.aload_n 0, 0, 0), (.iload 4, 0, 0), (.iconst 2, 0, 0), (.iadd, 0, 0)] (954, [some (zr (some (200, zSO))), some (zr (some (0, 0))), some (zr (some (11, 333))), some (zr (some (106, 380))), some (zi v4), none, none], [zi (v4 + 2), zr (some (200, zSO)), zi (X.2 (v4 + 1).toNatClampNeg), zr (some (0, 0))], h) (by decide +kernel) rfl ?_
  refine zG_scr (by decide +kernel) fun hb129 => ?_
  refine zG_run t_Law [(.aload_n 3, 0, 0)] (956, [some (zr (some (200, zSO))), some (zr (some (0, 0))), some (zr (some (11, 333))), some (zr (some (106, 380))), some (zi v4), none, none], [zr (some (106, 380)), zi (X.2 (v4 + 2).toNatClampNeg), zi (X.2 (v4 + 1).toNatClampNeg), zr (some (0, 0))], h) (by decide +kernel) rfl ?_
  refine zG_mono (bc' := 0 + 1) (bs' := 0 + 6) (by decide) (by decide) ?_
  refine zG_callSX (idx := 122) (as := [zr (some (0, 0)), zi (X.2 (v4 + 1).toNatClampNeg), zi (X.2 (v4 + 2).toNatClampNeg), zr (some (106, 380))]) (rest := []) (n := 4) (fun a ha => c_L_order hl ha) (by decide +kernel) ⟨ok_L_order, by decide, by decide +kernel⟩ rfl wl_68 wl_69 rfl rfl (Nat.le_of_ble_eq_true rfl) fun x130 => ?_
  refine zG_run t_Law [(.istore 5, 0, 0), (.aload_n 2, 0, 0), (.aload_n 0, 0, 0), (.iload 4, 0, 0), (.iconst 1, 0, 0), (.iadd, 0, 0)] (967, [some (zr (some (200, zSO))), some (zr (some (0, 0))), some (zr (some (11, 333))), some (zr (some (106, 380))), some (zi v4), some (zi x130.1), none], [zi (v4 + 1), zr (some (200, zSO)), zr (some (11, 333))], x130.2) (by decide +kernel) rfl ?_
  refine zG_scr (by decide +kernel) fun hb131 => ?_
  refine zG_run t_Law [(.aload_n 0, 0, 0), (.iload 4, 0, 0), (.iconst 2, 0, 0), (.iadd, 0, 0)] (973, [some (zr (some (200, zSO))), some (zr (some (0, 0))), some (zr (some (11, 333))), some (zr (some (106, 380))), some (zi v4), some (zi x130.1), none], [zi (v4 + 2), zr (some (200, zSO)), zi (X.2 (v4 + 1).toNatClampNeg), zr (some (11, 333))], x130.2) (by decide +kernel) rfl ?_
  refine zG_scr (by decide +kernel) fun hb132 => ?_
  refine zG_callV (idx := 124) (R := (fun a => (some (zi a.1), a.2))) (as := [zi (X.2 (v4 + 1).toNatClampNeg), zi (X.2 (v4 + 2).toNatClampNeg)]) (rest := []) (n := 2) (fun a ha => c_Mod_order hl ha) (by decide +kernel) ⟨ok_Mod_order, by decide, by decide +kernel⟩ rfl wl_65 wl_66 wl_67 (by decide) rfl rfl rfl (Nat.le_of_ble_eq_true rfl) fun x133 => ?_
  refine zG_run t_Law [(.istore 6, 0, 0), (.aload_n 2, 0, 0)] (980, [some (zr (some (200, zSO))), some (zr (some (0, 0))), some (zr (some (11, 333))), some (zr (some (106, 380))), some (zi v4), some (zi x130.1), some (zi x133.1)], [zr (some (11, 333))], x133.2) (by decide +kernel) rfl ?_
  refine zG_callV (idx := 85) (R := (fun a => (some (zi a), x133.2))) (as := []) (rest := []) (n := 0) (fun a ha => c_Mod_thrown hl ha) (by decide +kernel) ⟨ok_Mod_thrown, by decide, by decide +kernel⟩ rfl wl_9 wl_10 wl_11 (by decide) rfl rfl rfl (Nat.le_of_ble_eq_true rfl) fun x134 => ?_
  refine zG_run t_Law [(.iload 5, 0, 0)] (985, [some (zr (some (200, zSO))), some (zr (some (0, 0))), some (zr (some (11, 333))), some (zr (some (106, 380))), some (zi v4), some (zi x130.1), some (zi x133.1)], [zi x130.1, zi x134], x133.2) (by decide +kernel) rfl ?_
  refine zG_icmp (op := .eq) (off := 5) (tgt := 990) (by decide +kernel) rfl Iff.rfl (fun c137 => ?_) (fun c137 => ?_)
  · refine zG_run t_Law [(.iload 5, 0, 0)] (992, [some (zr (some (200, zSO))), some (zr (some (0, 0))), some (zr (some (11, 333))), some (zr (some (106, 380))), some (zi v4), some (zi x130.1), some (zi x133.1)], [zi x130.1], x133.2) (by decide +kernel) rfl ?_
    refine zG_if (op := .ne) (off := 15) (tgt := 1007) (by decide +kernel) rfl Iff.rfl (fun c136 => ?_) (fun c136 => ?_)
    · refine zG_run t_Law [(.goto 692, 0, 0), (.iinc 4 6, 0, 0), (.goto (-1679), 0, 0)] (23, [some (zr (some (200, zSO))), some (zr (some (0, 0))), some (zr (some (11, 333))), some (zr (some (106, 380))), some (zi (v4 + 6)), some (zi x130.1), some (zi x133.1)], [], x133.2) (by decide +kernel) rfl ?_
      exact zG_end (L' := [some (zr (some (200, zSO))), some (zr (some (0, 0))), some (zr (some (11, 333))), some (zr (some (106, 380))), some (zi (v4 + 6)), none, none]) rfl (And.intro rfl (And.intro rfl (And.intro rfl (And.intro rfl (And.intro rfl trivial)))))
    · refine zG_run t_Law [(.aload_n 3, 0, 0), (.iconst 0, 0, 0)] (997, [some (zr (some (200, zSO))), some (zr (some (0, 0))), some (zr (some (11, 333))), some (zr (some (106, 380))), some (zi v4), some (zi x130.1), some (zi x133.1)], [zi 0, zr (some (106, 380))], x133.2) (by decide +kernel) rfl ?_
      refine zG_aldc (v := zl (x133.2.2.1 380 0)) rfl (by decide +kernel) (by decide +kernel) rfl ?_
      refine zG_run t_Law [(.iload 6, 0, 0), (.i2l, 0, 0), (.lcmp, 0, 0)] (1002, [some (zr (some (200, zSO))), some (zr (some (0, 0))), some (zr (some (11, 333))), some (zr (some (106, 380))), some (zi v4), some (zi x130.1), some (zi x133.1)], [zi (lg_cmp (x133.2.2.1 380 0) x133.1.toInt64)], x133.2) (by decide +kernel) rfl ?_
      refine zG_if (op := .eq) (off := 5) (tgt := 1007) (by decide +kernel) rfl zcmp0 (fun c135 => ?_) (fun c135 => ?_)
      · refine zG_run t_Law [(.goto 692, 0, 0), (.iinc 4 6, 0, 0), (.goto (-1679), 0, 0)] (23, [some (zr (some (200, zSO))), some (zr (some (0, 0))), some (zr (some (11, 333))), some (zr (some (106, 380))), some (zi (v4 + 6)), some (zi x130.1), some (zi x133.1)], [], x133.2) (by decide +kernel) rfl ?_
        exact zG_end (L' := [some (zr (some (200, zSO))), some (zr (some (0, 0))), some (zr (some (11, 333))), some (zr (some (106, 380))), some (zi (v4 + 6)), none, none]) rfl (And.intro rfl (And.intro rfl (And.intro rfl (And.intro rfl (And.intro rfl trivial)))))
      · exact zG_none
  · exact zG_none
set_option maxRecDepth 20000 in
set_option maxHeartbeats 4000000 in
theorem k_law_a13 {l : Launch} {X : zX} (hl : l.stackTraces = false) {h : zH} {v4 : Int32} : zGl l m_law X 3 18 ((
                                  zg (zb (v4 + 1) X.1) <|
                                    (f_L_pack h (X.2 (v4 + 1).toNatClampNeg)).bind fun x140 =>
                                    zg (zb (v4 + 1) X.1) <|
                                    (f_Mod_pack x140.2 (X.2 (v4 + 1).toNatClampNeg)).bind fun x142 =>
                                    (f_Mod_thrown x142.2).bind fun x143 =>
                                    if x143 = x140.1 then (
                                    if ¬ x140.1 = 0 then (
                                      some (.inl ((v4 + 6), x142.2))) else (
                                      if (x142.2.2.1 380 0) = x142.1.toInt64 then (
                                        some (.inl ((v4 + 6), x142.2))) else (
                                        none))) else (
                                    none)) : Option ((Int32 × zH) ⊕ zH)) (1010, [some (zr (some (200, zSO))), some (zr (some (0, 0))), some (zr (some (11, 333))), some (zr (some (106, 380))), some (zi v4), none, none], [], h) (Sum.elim (fun s : Int32 × zH => .inl (23, [some (zr (some (200, zSO))), some (zr (some (0, 0))), some (zr (some (11, 333))), some (zr (some (106, 380))), some (zi s.1), none, none], [], s.2)) (fun y : zH => .inl (1705, [none, none, none, none, none, none, none], [], y))) := by
  refine zG_run t_Law [(.aload_n 1, 0, 0), (.aload_n 0, 0, 0), (.iload 4, 0, 0), (.iconst 1, 0, 0), (.iadd, 0, 0)] (1016, [some (zr (some (200, zSO))), some (zr (some (0, 0))), some (zr (some (11, 333))), some (zr (some (106, 380))), some (zi v4), none, none], [zi (v4 + 1), zr (some (200, zSO)), zr (some (0, 0))], h) (by decide +kernel) rfl ?_
  refine zG_scr (by decide +kernel) fun hb139 => ?_
  refine zG_run t_Law [(.aload_n 3, 0, 0)] (1018, [some (zr (some (200, zSO))), some (zr (some (0, 0))), some (zr (some (11, 333))), some (zr (some (106, 380))), some (zi v4), none, none], [zr (some (106, 380)), zi (X.2 (v4 + 1).toNatClampNeg), zr (some (0, 0))], h) (by decide +kernel) rfl ?_
  refine zG_mono (bc' := 0 + 1) (bs' := 0 + 6) (by decide) (by decide) ?_
  refine zG_callSX (idx := 125) (as := [zr (some (0, 0)), zi (X.2 (v4 + 1).toNatClampNeg), zr (some (106, 380))]) (rest := []) (n := 3) (fun a ha => c_L_pack hl ha) (by decide +kernel) ⟨ok_L_pack, by decide, by decide +kernel⟩ rfl wl_73 wl_74 rfl rfl (Nat.le_of_ble_eq_true rfl) fun x140 => ?_
  refine zG_run t_Law [(.istore 5, 0, 0), (.aload_n 2, 0, 0), (.aload_n 0, 0, 0), (.iload 4, 0, 0), (.iconst 1, 0, 0), (.iadd, 0, 0)] (1029, [some (zr (some (200, zSO))), some (zr (some (0, 0))), some (zr (some (11, 333))), some (zr (some (106, 380))), some (zi v4), some (zi x140.1), none], [zi (v4 + 1), zr (some (200, zSO)), zr (some (11, 333))], x140.2) (by decide +kernel) rfl ?_
  refine zG_scr (by decide +kernel) fun hb141 => ?_
  refine zG_callV (idx := 127) (R := (fun a => (some (zi a.1), a.2))) (as := [zi (X.2 (v4 + 1).toNatClampNeg)]) (rest := []) (n := 1) (fun a ha => c_Mod_pack hl ha) (by decide +kernel) ⟨ok_Mod_pack, by decide, by decide +kernel⟩ rfl wl_70 wl_71 wl_72 (by decide) rfl rfl rfl (Nat.le_of_ble_eq_true rfl) fun x142 => ?_
  refine zG_run t_Law [(.istore 6, 0, 0), (.aload_n 2, 0, 0)] (1036, [some (zr (some (200, zSO))), some (zr (some (0, 0))), some (zr (some (11, 333))), some (zr (some (106, 380))), some (zi v4), some (zi x140.1), some (zi x142.1)], [zr (some (11, 333))], x142.2) (by decide +kernel) rfl ?_
  refine zG_callV (idx := 85) (R := (fun a => (some (zi a), x142.2))) (as := []) (rest := []) (n := 0) (fun a ha => c_Mod_thrown hl ha) (by decide +kernel) ⟨ok_Mod_thrown, by decide, by decide +kernel⟩ rfl wl_9 wl_10 wl_11 (by decide) rfl rfl rfl (Nat.le_of_ble_eq_true rfl) fun x143 => ?_
  refine zG_run t_Law [(.iload 5, 0, 0)] (1041, [some (zr (some (200, zSO))), some (zr (some (0, 0))), some (zr (some (11, 333))), some (zr (some (106, 380))), some (zi v4), some (zi x140.1), some (zi x142.1)], [zi x140.1, zi x143], x142.2) (by decide +kernel) rfl ?_
  refine zG_icmp (op := .eq) (off := 5) (tgt := 1046) (by decide +kernel) rfl Iff.rfl (fun c146 => ?_) (fun c146 => ?_)
  · refine zG_run t_Law [(.iload 5, 0, 0)] (1048, [some (zr (some (200, zSO))), some (zr (some (0, 0))), some (zr (some (11, 333))), some (zr (some (106, 380))), some (zi v4), some (zi x140.1), some (zi x142.1)], [zi x140.1], x142.2) (by decide +kernel) rfl ?_
    refine zG_if (op := .ne) (off := 15) (tgt := 1063) (by decide +kernel) rfl Iff.rfl (fun c145 => ?_) (fun c145 => ?_)
    · refine zG_run t_Law [(.goto 636, 0, 0), (.iinc 4 6, 0, 0), (.goto (-1679), 0, 0)] (23, [some (zr (some (200, zSO))), some (zr (some (0, 0))), some (zr (some (11, 333))), some (zr (some (106, 380))), some (zi (v4 + 6)), some (zi x140.1), some (zi x142.1)], [], x142.2) (by decide +kernel) rfl ?_
      exact zG_end (L' := [some (zr (some (200, zSO))), some (zr (some (0, 0))), some (zr (some (11, 333))), some (zr (some (106, 380))), some (zi (v4 + 6)), none, none]) rfl (And.intro rfl (And.intro rfl (And.intro rfl (And.intro rfl (And.intro rfl trivial)))))
    · refine zG_run t_Law [(.aload_n 3, 0, 0), (.iconst 0, 0, 0)] (1053, [some (zr (some (200, zSO))), some (zr (some (0, 0))), some (zr (some (11, 333))), some (zr (some (106, 380))), some (zi v4), some (zi x140.1), some (zi x142.1)], [zi 0, zr (some (106, 380))], x142.2) (by decide +kernel) rfl ?_
      refine zG_aldc (v := zl (x142.2.2.1 380 0)) rfl (by decide +kernel) (by decide +kernel) rfl ?_
      refine zG_run t_Law [(.iload 6, 0, 0), (.i2l, 0, 0), (.lcmp, 0, 0)] (1058, [some (zr (some (200, zSO))), some (zr (some (0, 0))), some (zr (some (11, 333))), some (zr (some (106, 380))), some (zi v4), some (zi x140.1), some (zi x142.1)], [zi (lg_cmp (x142.2.2.1 380 0) x142.1.toInt64)], x142.2) (by decide +kernel) rfl ?_
      refine zG_if (op := .eq) (off := 5) (tgt := 1063) (by decide +kernel) rfl zcmp0 (fun c144 => ?_) (fun c144 => ?_)
      · refine zG_run t_Law [(.goto 636, 0, 0), (.iinc 4 6, 0, 0), (.goto (-1679), 0, 0)] (23, [some (zr (some (200, zSO))), some (zr (some (0, 0))), some (zr (some (11, 333))), some (zr (some (106, 380))), some (zi (v4 + 6)), some (zi x140.1), some (zi x142.1)], [], x142.2) (by decide +kernel) rfl ?_
        exact zG_end (L' := [some (zr (some (200, zSO))), some (zr (some (0, 0))), some (zr (some (11, 333))), some (zr (some (106, 380))), some (zi (v4 + 6)), none, none]) rfl (And.intro rfl (And.intro rfl (And.intro rfl (And.intro rfl (And.intro rfl trivial)))))
      · exact zG_none
  · exact zG_none
set_option maxRecDepth 20000 in
set_option maxHeartbeats 4000000 in
theorem k_law_a14 {l : Launch} {X : zX} (hl : l.stackTraces = false) {h : zH} {v4 : Int32} : zGl l m_law X 3 18 ((
                                    zg (zb (v4 + 1) X.1) <|
                                      zg (zb (v4 + 2) X.1) <|
                                      (f_Main_put h (X.2 (v4 + 1).toNatClampNeg) (X.2 (v4 + 2).toNatClampNeg)).bind fun x150 =>
                                      zg (zb (v4 + 1) X.1) <|
                                      zg (zb (v4 + 2) X.1) <|
                                      (f_Mod_put x150.2 (X.2 (v4 + 1).toNatClampNeg) (X.2 (v4 + 2).toNatClampNeg)).bind fun x153 =>
                                      if x150.1 = x153.1 then (
                                      some (.inl ((v4 + 6), x153.2))) else (
                                      none)) : Option ((Int32 × zH) ⊕ zH)) (1066, [some (zr (some (200, zSO))), some (zr (some (0, 0))), some (zr (some (11, 333))), some (zr (some (106, 380))), some (zi v4), none, none], [], h) (Sum.elim (fun s : Int32 × zH => .inl (23, [some (zr (some (200, zSO))), some (zr (some (0, 0))), some (zr (some (11, 333))), some (zr (some (106, 380))), some (zi s.1), none, none], [], s.2)) (fun y : zH => .inl (1705, [none, none, none, none, none, none, none], [], y))) := by
  refine zG_run t_Law [(.aload_n 1, 0, 0), (.aload_n 0, 0, 0), (.iload 4, 0, 0), (.iconst 1, 0, 0), (.iadd, 0, 0)] (1072, [some (zr (some (200, zSO))), some (zr (some (0, 0))), some (zr (some (11, 333))), some (zr (some (106, 380))), some (zi v4), none, none], [zi (v4 + 1), zr (some (200, zSO)), zr (some (0, 0))], h) (by decide +kernel) rfl ?_
  refine zG_scr (by decide +kernel) fun hb148 => ?_
  refine zG_run t_Law [(.aload_n 0, 0, 0), (.iload 4, 0, 0), (.iconst 2, 0, 0), (.iadd, 0, 0)] (1078, [some (zr (some (200, zSO))), some (zr (some (0, 0))), some (zr (some (11, 333))), some (zr (some (106, 380))), some (zi v4), none, none], [zi (v4 + 2), zr (some (200, zSO)), zi (X.2 (v4 + 1).toNatClampNeg), zr (some (0, 0))], h) (by decide +kernel) rfl ?_
  refine zG_scr (by decide +kernel) fun hb149 => ?_
  refine zG_callV (idx := 128) (R := (fun a => (some (zi a.1), a.2))) (as := [zi (X.2 (v4 + 1).toNatClampNeg), zi (X.2 (v4 + 2).toNatClampNeg)]) (rest := []) (n := 2) (fun a ha => c_Main_put hl ha) (by decide +kernel) ⟨ok_Main_put, by decide, by decide +kernel⟩ rfl wl_75 wl_76 wl_77 (by decide) rfl rfl rfl (Nat.le_of_ble_eq_true rfl) fun x150 => ?_
  refine zG_run t_Law [(.aload_n 2, 0, 0), (.aload_n 0, 0, 0), (.iload 4, 0, 0), (.iconst 1, 0, 0), (.iadd, 0, 0)] (1088, [some (zr (some (200, zSO))), some (zr (some (0, 0))), some (zr (some (11, 333))), some (zr (some (106, 380))), some (zi v4), none, none], [zi (v4 + 1), zr (some (200, zSO)), zr (some (11, 333)), zi x150.1], x150.2) (by decide +kernel) rfl ?_
  refine zG_scr (by decide +kernel) fun hb151 => ?_
  refine zG_run t_Law [(.aload_n 0, 0, 0), (.iload 4, 0, 0), (.iconst 2, 0, 0), (.iadd, 0, 0)] (1094, [some (zr (some (200, zSO))), some (zr (some (0, 0))), some (zr (some (11, 333))), some (zr (some (106, 380))), some (zi v4), none, none], [zi (v4 + 2), zr (some (200, zSO)), zi (X.2 (v4 + 1).toNatClampNeg), zr (some (11, 333)), zi x150.1], x150.2) (by decide +kernel) rfl ?_
  refine zG_scr (by decide +kernel) fun hb152 => ?_
  refine zG_callV (idx := 131) (R := (fun a => (some (zi a.1), a.2))) (as := [zi (X.2 (v4 + 1).toNatClampNeg), zi (X.2 (v4 + 2).toNatClampNeg)]) (rest := [zi x150.1]) (n := 2) (fun a ha => c_Mod_put hl ha) (by decide +kernel) ⟨ok_Mod_put, by decide, by decide +kernel⟩ rfl wl_78 wl_79 wl_80 (by decide) rfl rfl rfl (Nat.le_of_ble_eq_true rfl) fun x153 => ?_
  refine zG_icmp (op := .eq) (off := 601) (tgt := 1699) (by decide +kernel) rfl Iff.rfl (fun c154 => ?_) (fun c154 => ?_)
  · refine zG_run t_Law [(.iinc 4 6, 0, 0), (.goto (-1679), 0, 0)] (23, [some (zr (some (200, zSO))), some (zr (some (0, 0))), some (zr (some (11, 333))), some (zr (some (106, 380))), some (zi (v4 + 6)), none, none], [], x153.2) (by decide +kernel) rfl ?_
    exact zG_end (L' := [some (zr (some (200, zSO))), some (zr (some (0, 0))), some (zr (some (11, 333))), some (zr (some (106, 380))), some (zi (v4 + 6)), none, none]) rfl (And.intro rfl (And.intro rfl (And.intro rfl (And.intro rfl (And.intro rfl trivial)))))
  · exact zG_none
set_option maxRecDepth 20000 in
set_option maxHeartbeats 4000000 in
theorem k_law_a15 {l : Launch} {X : zX} (hl : l.stackTraces = false) {h : zH} {v4 : Int32} : zGl l m_law X 3 18 ((
                                      zg (zb (v4 + 1) X.1) <|
                                        (f_Main_shift h (X.2 (v4 + 1).toNatClampNeg)).bind fun x157 =>
                                        zg (zb (v4 + 1) X.1) <|
                                        (f_Mod_shift x157.2 (X.2 (v4 + 1).toNatClampNeg)).bind fun x159 =>
                                        if x157.1 = x159.1 then (
                                        some (.inl ((v4 + 6), x159.2))) else (
                                        none)) : Option ((Int32 × zH) ⊕ zH)) (1103, [some (zr (some (200, zSO))), some (zr (some (0, 0))), some (zr (some (11, 333))), some (zr (some (106, 380))), some (zi v4), none, none], [], h) (Sum.elim (fun s : Int32 × zH => .inl (23, [some (zr (some (200, zSO))), some (zr (some (0, 0))), some (zr (some (11, 333))), some (zr (some (106, 380))), some (zi s.1), none, none], [], s.2)) (fun y : zH => .inl (1705, [none, none, none, none, none, none, none], [], y))) := by
  refine zG_run t_Law [(.aload_n 1, 0, 0), (.aload_n 0, 0, 0), (.iload 4, 0, 0), (.iconst 1, 0, 0), (.iadd, 0, 0)] (1109, [some (zr (some (200, zSO))), some (zr (some (0, 0))), some (zr (some (11, 333))), some (zr (some (106, 380))), some (zi v4), none, none], [zi (v4 + 1), zr (some (200, zSO)), zr (some (0, 0))], h) (by decide +kernel) rfl ?_
  refine zG_scr (by decide +kernel) fun hb156 => ?_
  refine zG_callV (idx := 132) (R := (fun a => (some (zi a.1), a.2))) (as := [zi (X.2 (v4 + 1).toNatClampNeg)]) (rest := []) (n := 1) (fun a ha => c_Main_shift hl ha) (by decide +kernel) ⟨ok_Main_shift, by decide, by decide +kernel⟩ rfl wl_81 wl_82 wl_83 (by decide) rfl rfl rfl (Nat.le_of_ble_eq_true rfl) fun x157 => ?_
  refine zG_run t_Law [(.aload_n 2, 0, 0), (.aload_n 0, 0, 0), (.iload 4, 0, 0), (.iconst 1, 0, 0), (.iadd, 0, 0)] (1119, [some (zr (some (200, zSO))), some (zr (some (0, 0))), some (zr (some (11, 333))), some (zr (some (106, 380))), some (zi v4), none, none], [zi (v4 + 1), zr (some (200, zSO)), zr (some (11, 333)), zi x157.1], x157.2) (by decide +kernel) rfl ?_
  refine zG_scr (by decide +kernel) fun hb158 => ?_
  refine zG_callV (idx := 135) (R := (fun a => (some (zi a.1), a.2))) (as := [zi (X.2 (v4 + 1).toNatClampNeg)]) (rest := [zi x157.1]) (n := 1) (fun a ha => c_Mod_shift hl ha) (by decide +kernel) ⟨ok_Mod_shift, by decide, by decide +kernel⟩ rfl wl_84 wl_85 wl_86 (by decide) rfl rfl rfl (Nat.le_of_ble_eq_true rfl) fun x159 => ?_
  refine zG_icmp (op := .eq) (off := 576) (tgt := 1699) (by decide +kernel) rfl Iff.rfl (fun c160 => ?_) (fun c160 => ?_)
  · refine zG_run t_Law [(.iinc 4 6, 0, 0), (.goto (-1679), 0, 0)] (23, [some (zr (some (200, zSO))), some (zr (some (0, 0))), some (zr (some (11, 333))), some (zr (some (106, 380))), some (zi (v4 + 6)), none, none], [], x159.2) (by decide +kernel) rfl ?_
    exact zG_end (L' := [some (zr (some (200, zSO))), some (zr (some (0, 0))), some (zr (some (11, 333))), some (zr (some (106, 380))), some (zi (v4 + 6)), none, none]) rfl (And.intro rfl (And.intro rfl (And.intro rfl (And.intro rfl (And.intro rfl trivial)))))
  · exact zG_none
set_option maxRecDepth 20000 in
set_option maxHeartbeats 4000000 in
theorem k_law_a16 {l : Launch} {X : zX} (hl : l.stackTraces = false) {h : zH} {v4 : Int32} : zGl l m_law X 3 18 ((
                                        (f_Main_take h).bind fun x162 =>
                                          (f_Mod_take x162.2).bind fun x163 =>
                                          if x162.1 = x163.1 then (
                                          some (.inl ((v4 + 6), x163.2))) else (
                                          none)) : Option ((Int32 × zH) ⊕ zH)) (1128, [some (zr (some (200, zSO))), some (zr (some (0, 0))), some (zr (some (11, 333))), some (zr (some (106, 380))), some (zi v4), none, none], [], h) (Sum.elim (fun s : Int32 × zH => .inl (23, [some (zr (some (200, zSO))), some (zr (some (0, 0))), some (zr (some (11, 333))), some (zr (some (106, 380))), some (zi s.1), none, none], [], s.2)) (fun y : zH => .inl (1705, [none, none, none, none, none, none, none], [], y))) := by
  refine zG_run t_Law [(.aload_n 1, 0, 0)] (1129, [some (zr (some (200, zSO))), some (zr (some (0, 0))), some (zr (some (11, 333))), some (zr (some (106, 380))), some (zi v4), none, none], [zr (some (0, 0))], h) (by decide +kernel) rfl ?_
  refine zG_callV (idx := 136) (R := (fun a => (some (zi a.1), a.2))) (as := []) (rest := []) (n := 0) (fun a ha => c_Main_take hl ha) (by decide +kernel) ⟨ok_Main_take, by decide, by decide +kernel⟩ rfl wl_87 wl_88 wl_89 (by decide) rfl rfl rfl (Nat.le_of_ble_eq_true rfl) fun x162 => ?_
  refine zG_run t_Law [(.aload_n 2, 0, 0)] (1133, [some (zr (some (200, zSO))), some (zr (some (0, 0))), some (zr (some (11, 333))), some (zr (some (106, 380))), some (zi v4), none, none], [zr (some (11, 333)), zi x162.1], x162.2) (by decide +kernel) rfl ?_
  refine zG_callV (idx := 139) (R := (fun a => (some (zi a.1), a.2))) (as := []) (rest := [zi x162.1]) (n := 0) (fun a ha => c_Mod_take hl ha) (by decide +kernel) ⟨ok_Mod_take, by decide, by decide +kernel⟩ rfl wl_90 wl_91 wl_92 (by decide) rfl rfl rfl (Nat.le_of_ble_eq_true rfl) fun x163 => ?_
  refine zG_icmp (op := .eq) (off := 563) (tgt := 1699) (by decide +kernel) rfl Iff.rfl (fun c164 => ?_) (fun c164 => ?_)
  · refine zG_run t_Law [(.iinc 4 6, 0, 0), (.goto (-1679), 0, 0)] (23, [some (zr (some (200, zSO))), some (zr (some (0, 0))), some (zr (some (11, 333))), some (zr (some (106, 380))), some (zi (v4 + 6)), none, none], [], x163.2) (by decide +kernel) rfl ?_
    exact zG_end (L' := [some (zr (some (200, zSO))), some (zr (some (0, 0))), some (zr (some (11, 333))), some (zr (some (106, 380))), some (zi (v4 + 6)), none, none]) rfl (And.intro rfl (And.intro rfl (And.intro rfl (And.intro rfl (And.intro rfl trivial)))))
  · exact zG_none
set_option maxRecDepth 20000 in
set_option maxHeartbeats 4000000 in
theorem k_law_a17 {l : Launch} {X : zX} (hl : l.stackTraces = false) {h : zH} {v4 : Int32} : zGl l m_law X 3 18 ((
                                          zg (zb (v4 + 1) X.1) <|
                                            (f_Main_load h (X.2 (v4 + 1).toNatClampNeg)).bind fun x167 =>
                                            zg (zb (v4 + 1) X.1) <|
                                            (f_Mod_load x167.2 (X.2 (v4 + 1).toNatClampNeg)).bind fun x169 =>
                                            if x167.1 = x169.1 then (
                                            some (.inl ((v4 + 6), x169.2))) else (
                                            none)) : Option ((Int32 × zH) ⊕ zH)) (1141, [some (zr (some (200, zSO))), some (zr (some (0, 0))), some (zr (some (11, 333))), some (zr (some (106, 380))), some (zi v4), none, none], [], h) (Sum.elim (fun s : Int32 × zH => .inl (23, [some (zr (some (200, zSO))), some (zr (some (0, 0))), some (zr (some (11, 333))), some (zr (some (106, 380))), some (zi s.1), none, none], [], s.2)) (fun y : zH => .inl (1705, [none, none, none, none, none, none, none], [], y))) := by
  refine zG_run t_Law [(.aload_n 1, 0, 0), (.aload_n 0, 0, 0), (.iload 4, 0, 0), (.iconst 1, 0, 0), (.iadd, 0, 0)] (1147, [some (zr (some (200, zSO))), some (zr (some (0, 0))), some (zr (some (11, 333))), some (zr (some (106, 380))), some (zi v4), none, none], [zi (v4 + 1), zr (some (200, zSO)), zr (some (0, 0))], h) (by decide +kernel) rfl ?_
  refine zG_scr (by decide +kernel) fun hb166 => ?_
  refine zG_callV (idx := 140) (R := (fun a => (some (zi a.1), a.2))) (as := [zi (X.2 (v4 + 1).toNatClampNeg)]) (rest := []) (n := 1) (fun a ha => c_Main_load hl ha) (by decide +kernel) ⟨ok_Main_load, by decide, by decide +kernel⟩ rfl wl_93 wl_94 wl_95 (by decide) rfl rfl rfl (Nat.le_of_ble_eq_true rfl) fun x167 => ?_
  refine zG_run t_Law [(.aload_n 2, 0, 0), (.aload_n 0, 0, 0), (.iload 4, 0, 0), (.iconst 1, 0, 0), (.iadd, 0, 0)] (1157, [some (zr (some (200, zSO))), some (zr (some (0, 0))), some (zr (some (11, 333))), some (zr (some (106, 380))), some (zi v4), none, none], [zi (v4 + 1), zr (some (200, zSO)), zr (some (11, 333)), zi x167.1], x167.2) (by decide +kernel) rfl ?_
  refine zG_scr (by decide +kernel) fun hb168 => ?_
  refine zG_callV (idx := 143) (R := (fun a => (some (zi a.1), a.2))) (as := [zi (X.2 (v4 + 1).toNatClampNeg)]) (rest := [zi x167.1]) (n := 1) (fun a ha => c_Mod_load hl ha) (by decide +kernel) ⟨ok_Mod_load, by decide, by decide +kernel⟩ rfl wl_96 wl_97 wl_98 (by decide) rfl rfl rfl (Nat.le_of_ble_eq_true rfl) fun x169 => ?_
  refine zG_icmp (op := .eq) (off := 538) (tgt := 1699) (by decide +kernel) rfl Iff.rfl (fun c170 => ?_) (fun c170 => ?_)
  · refine zG_run t_Law [(.iinc 4 6, 0, 0), (.goto (-1679), 0, 0)] (23, [some (zr (some (200, zSO))), some (zr (some (0, 0))), some (zr (some (11, 333))), some (zr (some (106, 380))), some (zi (v4 + 6)), none, none], [], x169.2) (by decide +kernel) rfl ?_
    exact zG_end (L' := [some (zr (some (200, zSO))), some (zr (some (0, 0))), some (zr (some (11, 333))), some (zr (some (106, 380))), some (zi (v4 + 6)), none, none]) rfl (And.intro rfl (And.intro rfl (And.intro rfl (And.intro rfl (And.intro rfl trivial)))))
  · exact zG_none
set_option maxRecDepth 20000 in
set_option maxHeartbeats 4000000 in
theorem k_law_a18 {l : Launch} {X : zX} (hl : l.stackTraces = false) {h : zH} {v4 : Int32} : zGl l m_law X 3 18 ((
                                            (f_Main_apply h).bind fun x172 =>
                                              (f_Mod_apply x172.2).bind fun x173 =>
                                              if x172.1 = x173.1 then (
                                              some (.inl ((v4 + 6), x173.2))) else (
                                              none)) : Option ((Int32 × zH) ⊕ zH)) (1166, [some (zr (some (200, zSO))), some (zr (some (0, 0))), some (zr (some (11, 333))), some (zr (some (106, 380))), some (zi v4), none, none], [], h) (Sum.elim (fun s : Int32 × zH => .inl (23, [some (zr (some (200, zSO))), some (zr (some (0, 0))), some (zr (some (11, 333))), some (zr (some (106, 380))), some (zi s.1), none, none], [], s.2)) (fun y : zH => .inl (1705, [none, none, none, none, none, none, none], [], y))) := by
  refine zG_run t_Law [(.aload_n 1, 0, 0)] (1167, [some (zr (some (200, zSO))), some (zr (some (0, 0))), some (zr (some (11, 333))), some (zr (some (106, 380))), some (zi v4), none, none], [zr (some (0, 0))], h) (by decide +kernel) rfl ?_
  refine zG_callV (idx := 144) (R := (fun a => (some (zi a.1), a.2))) (as := []) (rest := []) (n := 0) (fun a ha => c_Main_apply hl ha) (by decide +kernel) ⟨ok_Main_apply, by decide, by decide +kernel⟩ rfl wl_99 wl_100 wl_101 (by decide) rfl rfl rfl (Nat.le_of_ble_eq_true rfl) fun x172 => ?_
  refine zG_run t_Law [(.aload_n 2, 0, 0)] (1171, [some (zr (some (200, zSO))), some (zr (some (0, 0))), some (zr (some (11, 333))), some (zr (some (106, 380))), some (zi v4), none, none], [zr (some (11, 333)), zi x172.1], x172.2) (by decide +kernel) rfl ?_
  refine zG_callV (idx := 147) (R := (fun a => (some (zi a.1), a.2))) (as := []) (rest := [zi x172.1]) (n := 0) (fun a ha => c_Mod_apply hl ha) (by decide +kernel) ⟨ok_Mod_apply, by decide, by decide +kernel⟩ rfl wl_102 wl_103 wl_104 (by decide) rfl rfl rfl (Nat.le_of_ble_eq_true rfl) fun x173 => ?_
  refine zG_icmp (op := .eq) (off := 525) (tgt := 1699) (by decide +kernel) rfl Iff.rfl (fun c174 => ?_) (fun c174 => ?_)
  · refine zG_run t_Law [(.iinc 4 6, 0, 0), (.goto (-1679), 0, 0)] (23, [some (zr (some (200, zSO))), some (zr (some (0, 0))), some (zr (some (11, 333))), some (zr (some (106, 380))), some (zi (v4 + 6)), none, none], [], x173.2) (by decide +kernel) rfl ?_
    exact zG_end (L' := [some (zr (some (200, zSO))), some (zr (some (0, 0))), some (zr (some (11, 333))), some (zr (some (106, 380))), some (zi (v4 + 6)), none, none]) rfl (And.intro rfl (And.intro rfl (And.intro rfl (And.intro rfl (And.intro rfl trivial)))))
  · exact zG_none
set_option maxRecDepth 20000 in
set_option maxHeartbeats 4000000 in
theorem k_law_a19 {l : Launch} {X : zX} (hl : l.stackTraces = false) {h : zH} {v4 : Int32} : zGl l m_law X 3 18 ((
                                              zg (zb (v4 + 1) X.1) <|
                                                (f_L_defect h (X.2 (v4 + 1).toNatClampNeg)).bind fun x177 =>
                                                zg (zb (v4 + 1) X.1) <|
                                                (f_Mod_defect x177.2 (X.2 (v4 + 1).toNatClampNeg)).bind fun x179 =>
                                                (f_Mod_thrown x179.2).bind fun x180 =>
                                                if x180 = x177.1 then (
                                                if ¬ x177.1 = 0 then (
                                                  some (.inl ((v4 + 6), x179.2))) else (
                                                  if (x179.2.2.1 380 0) = x179.1.toInt64 then (
                                                    some (.inl ((v4 + 6), x179.2))) else (
                                                    none))) else (
                                                none)) : Option ((Int32 × zH) ⊕ zH)) (1179, [some (zr (some (200, zSO))), some (zr (some (0, 0))), some (zr (some (11, 333))), some (zr (some (106, 380))), some (zi v4), none, none], [], h) (Sum.elim (fun s : Int32 × zH => .inl (23, [some (zr (some (200, zSO))), some (zr (some (0, 0))), some (zr (some (11, 333))), some (zr (some (106, 380))), some (zi s.1), none, none], [], s.2)) (fun y : zH => .inl (1705, [none, none, none, none, none, none, none], [], y))) := by
  refine zG_run t_Law [(.aload_n 1, 0, 0), (.aload_n 0, 0, 0), (.iload 4, 0, 0), (.iconst 1, 0, 0), (.iadd, 0, 0)] (1185, [some (zr (some (200, zSO))), some (zr (some (0, 0))), some (zr (some (11, 333))), some (zr (some (106, 380))), some (zi v4), none, none], [zi (v4 + 1), zr (some (200, zSO)), zr (some (0, 0))], h) (by decide +kernel) rfl ?_
  refine zG_scr (by decide +kernel) fun hb176 => ?_
  refine zG_run t_Law [(.aload_n 3, 0, 0)] (1187, [some (zr (some (200, zSO))), some (zr (some (0, 0))), some (zr (some (11, 333))), some (zr (some (106, 380))), some (zi v4), none, none], [zr (some (106, 380)), zi (X.2 (v4 + 1).toNatClampNeg), zr (some (0, 0))], h) (by decide +kernel) rfl ?_
  refine zG_mono (bc' := 0 + 1) (bs' := 0 + 6) (by decide) (by decide) ?_
  refine zG_callSX (idx := 148) (as := [zr (some (0, 0)), zi (X.2 (v4 + 1).toNatClampNeg), zr (some (106, 380))]) (rest := []) (n := 3) (fun a ha => c_L_defect hl ha) (by decide +kernel) ⟨ok_L_defect, by decide, by decide +kernel⟩ rfl wl_108 wl_109 rfl rfl (Nat.le_of_ble_eq_true rfl) fun x177 => ?_
  refine zG_run t_Law [(.istore 5, 0, 0), (.aload_n 2, 0, 0), (.aload_n 0, 0, 0), (.iload 4, 0, 0), (.iconst 1, 0, 0), (.iadd, 0, 0)] (1198, [some (zr (some (200, zSO))), some (zr (some (0, 0))), some (zr (some (11, 333))), some (zr (some (106, 380))), some (zi v4), some (zi x177.1), none], [zi (v4 + 1), zr (some (200, zSO)), zr (some (11, 333))], x177.2) (by decide +kernel) rfl ?_
  refine zG_scr (by decide +kernel) fun hb178 => ?_
  refine zG_callV (idx := 150) (R := (fun a => (some (zi a.1), a.2))) (as := [zi (X.2 (v4 + 1).toNatClampNeg)]) (rest := []) (n := 1) (fun a ha => c_Mod_defect hl ha) (by decide +kernel) ⟨ok_Mod_defect, by decide, by decide +kernel⟩ rfl wl_105 wl_106 wl_107 (by decide) rfl rfl rfl (Nat.le_of_ble_eq_true rfl) fun x179 => ?_
  refine zG_run t_Law [(.istore 6, 0, 0), (.aload_n 2, 0, 0)] (1205, [some (zr (some (200, zSO))), some (zr (some (0, 0))), some (zr (some (11, 333))), some (zr (some (106, 380))), some (zi v4), some (zi x177.1), some (zi x179.1)], [zr (some (11, 333))], x179.2) (by decide +kernel) rfl ?_
  refine zG_callV (idx := 85) (R := (fun a => (some (zi a), x179.2))) (as := []) (rest := []) (n := 0) (fun a ha => c_Mod_thrown hl ha) (by decide +kernel) ⟨ok_Mod_thrown, by decide, by decide +kernel⟩ rfl wl_9 wl_10 wl_11 (by decide) rfl rfl rfl (Nat.le_of_ble_eq_true rfl) fun x180 => ?_
  refine zG_run t_Law [(.iload 5, 0, 0)] (1210, [some (zr (some (200, zSO))), some (zr (some (0, 0))), some (zr (some (11, 333))), some (zr (some (106, 380))), some (zi v4), some (zi x177.1), some (zi x179.1)], [zi x177.1, zi x180], x179.2) (by decide +kernel) rfl ?_
  refine zG_icmp (op := .eq) (off := 5) (tgt := 1215) (by decide +kernel) rfl Iff.rfl (fun c183 => ?_) (fun c183 => ?_)
  · refine zG_run t_Law [(.iload 5, 0, 0)] (1217, [some (zr (some (200, zSO))), some (zr (some (0, 0))), some (zr (some (11, 333))), some (zr (some (106, 380))), some (zi v4), some (zi x177.1), some (zi x179.1)], [zi x177.1], x179.2) (by decide +kernel) rfl ?_
    refine zG_if (op := .ne) (off := 15) (tgt := 1232) (by decide +kernel) rfl Iff.rfl (fun c182 => ?_) (fun c182 => ?_)
    · refine zG_run t_Law [(.goto 467, 0, 0), (.iinc 4 6, 0, 0), (.goto (-1679), 0, 0)] (23, [some (zr (some (200, zSO))), some (zr (some (0, 0))), some (zr (some (11, 333))), some (zr (some (106, 380))), some (zi (v4 + 6)), some (zi x177.1), some (zi x179.1)], [], x179.2) (by decide +kernel) rfl ?_
      exact zG_end (L' := [some (zr (some (200, zSO))), some (zr (some (0, 0))), some (zr (some (11, 333))), some (zr (some (106, 380))), some (zi (v4 + 6)), none, none]) rfl (And.intro rfl (And.intro rfl (And.intro rfl (And.intro rfl (And.intro rfl trivial)))))
    · refine zG_run t_Law [(.aload_n 3, 0, 0), (.iconst 0, 0, 0)] (1222, [some (zr (some (200, zSO))), some (zr (some (0, 0))), some (zr (some (11, 333))), some (zr (some (106, 380))), some (zi v4), some (zi x177.1), some (zi x179.1)], [zi 0, zr (some (106, 380))], x179.2) (by decide +kernel) rfl ?_
      refine zG_aldc (v := zl (x179.2.2.1 380 0)) rfl (by decide +kernel) (by decide +kernel) rfl ?_
      refine zG_run t_Law [(.iload 6, 0, 0), (.i2l, 0, 0), (.lcmp, 0, 0)] (1227, [some (zr (some (200, zSO))), some (zr (some (0, 0))), some (zr (some (11, 333))), some (zr (some (106, 380))), some (zi v4), some (zi x177.1), some (zi x179.1)], [zi (lg_cmp (x179.2.2.1 380 0) x179.1.toInt64)], x179.2) (by decide +kernel) rfl ?_
      refine zG_if (op := .eq) (off := 5) (tgt := 1232) (by decide +kernel) rfl zcmp0 (fun c181 => ?_) (fun c181 => ?_)
      · refine zG_run t_Law [(.goto 467, 0, 0), (.iinc 4 6, 0, 0), (.goto (-1679), 0, 0)] (23, [some (zr (some (200, zSO))), some (zr (some (0, 0))), some (zr (some (11, 333))), some (zr (some (106, 380))), some (zi (v4 + 6)), some (zi x177.1), some (zi x179.1)], [], x179.2) (by decide +kernel) rfl ?_
        exact zG_end (L' := [some (zr (some (200, zSO))), some (zr (some (0, 0))), some (zr (some (11, 333))), some (zr (some (106, 380))), some (zi (v4 + 6)), none, none]) rfl (And.intro rfl (And.intro rfl (And.intro rfl (And.intro rfl (And.intro rfl trivial)))))
      · exact zG_none
  · exact zG_none
set_option maxRecDepth 20000 in
set_option maxHeartbeats 4000000 in
theorem k_law_a20 {l : Launch} {X : zX} (hl : l.stackTraces = false) {h : zH} {v4 : Int32} : zGl l m_law X 3 18 ((
                                                zg (zb (v4 + 1) X.1) <|
                                                  (f_Main_fill h (X.2 (v4 + 1).toNatClampNeg)).bind fun x186 =>
                                                  zg (zb (v4 + 1) X.1) <|
                                                  (f_Mod_fill x186.2 (X.2 (v4 + 1).toNatClampNeg)).bind fun x188 =>
                                                  if x186.1 = x188.1 then (
                                                  some (.inl ((v4 + 6), x188.2))) else (
                                                  none)) : Option ((Int32 × zH) ⊕ zH)) (1235, [some (zr (some (200, zSO))), some (zr (some (0, 0))), some (zr (some (11, 333))), some (zr (some (106, 380))), some (zi v4), none, none], [], h) (Sum.elim (fun s : Int32 × zH => .inl (23, [some (zr (some (200, zSO))), some (zr (some (0, 0))), some (zr (some (11, 333))), some (zr (some (106, 380))), some (zi s.1), none, none], [], s.2)) (fun y : zH => .inl (1705, [none, none, none, none, none, none, none], [], y))) := by
  refine zG_run t_Law [(.aload_n 1, 0, 0), (.aload_n 0, 0, 0), (.iload 4, 0, 0), (.iconst 1, 0, 0), (.iadd, 0, 0)] (1241, [some (zr (some (200, zSO))), some (zr (some (0, 0))), some (zr (some (11, 333))), some (zr (some (106, 380))), some (zi v4), none, none], [zi (v4 + 1), zr (some (200, zSO)), zr (some (0, 0))], h) (by decide +kernel) rfl ?_
  refine zG_scr (by decide +kernel) fun hb185 => ?_
  refine zG_callV (idx := 151) (R := (fun a => (some (zi a.1), a.2))) (as := [zi (X.2 (v4 + 1).toNatClampNeg)]) (rest := []) (n := 1) (fun a ha => c_Main_fill hl ha) (by decide +kernel) ⟨ok_Main_fill, by decide, by decide +kernel⟩ rfl wl_110 wl_111 wl_112 (by decide) rfl rfl rfl (Nat.le_of_ble_eq_true rfl) fun x186 => ?_
  refine zG_run t_Law [(.aload_n 2, 0, 0), (.aload_n 0, 0, 0), (.iload 4, 0, 0), (.iconst 1, 0, 0), (.iadd, 0, 0)] (1251, [some (zr (some (200, zSO))), some (zr (some (0, 0))), some (zr (some (11, 333))), some (zr (some (106, 380))), some (zi v4), none, none], [zi (v4 + 1), zr (some (200, zSO)), zr (some (11, 333)), zi x186.1], x186.2) (by decide +kernel) rfl ?_
  refine zG_scr (by decide +kernel) fun hb187 => ?_
  refine zG_callV (idx := 154) (R := (fun a => (some (zi a.1), a.2))) (as := [zi (X.2 (v4 + 1).toNatClampNeg)]) (rest := [zi x186.1]) (n := 1) (fun a ha => c_Mod_fill hl ha) (by decide +kernel) ⟨ok_Mod_fill, by decide, by decide +kernel⟩ rfl wl_113 wl_114 wl_115 (by decide) rfl rfl rfl (Nat.le_of_ble_eq_true rfl) fun x188 => ?_
  refine zG_icmp (op := .eq) (off := 444) (tgt := 1699) (by decide +kernel) rfl Iff.rfl (fun c189 => ?_) (fun c189 => ?_)
  · refine zG_run t_Law [(.iinc 4 6, 0, 0), (.goto (-1679), 0, 0)] (23, [some (zr (some (200, zSO))), some (zr (some (0, 0))), some (zr (some (11, 333))), some (zr (some (106, 380))), some (zi (v4 + 6)), none, none], [], x188.2) (by decide +kernel) rfl ?_
    exact zG_end (L' := [some (zr (some (200, zSO))), some (zr (some (0, 0))), some (zr (some (11, 333))), some (zr (some (106, 380))), some (zi (v4 + 6)), none, none]) rfl (And.intro rfl (And.intro rfl (And.intro rfl (And.intro rfl (And.intro rfl trivial)))))
  · exact zG_none
set_option maxRecDepth 20000 in
set_option maxHeartbeats 4000000 in
theorem k_law_a21 {l : Launch} {X : zX} (hl : l.stackTraces = false) {h : zH} {v4 : Int32} : zGl l m_law X 3 18 ((
                                                  zg (zb (v4 + 1) X.1) <|
                                                    (f_Main_pick h (X.2 (v4 + 1).toNatClampNeg)).bind fun x192 =>
                                                    zg (zb (v4 + 1) X.1) <|
                                                    (f_Mod_pick x192.2 (X.2 (v4 + 1).toNatClampNeg)).bind fun x194 =>
                                                    if x192.1 = x194.1 then (
                                                    some (.inl ((v4 + 6), x194.2))) else (
                                                    none)) : Option ((Int32 × zH) ⊕ zH)) (1260, [some (zr (some (200, zSO))), some (zr (some (0, 0))), some (zr (some (11, 333))), some (zr (some (106, 380))), some (zi v4), none, none], [], h) (Sum.elim (fun s : Int32 × zH => .inl (23, [some (zr (some (200, zSO))), some (zr (some (0, 0))), some (zr (some (11, 333))), some (zr (some (106, 380))), some (zi s.1), none, none], [], s.2)) (fun y : zH => .inl (1705, [none, none, none, none, none, none, none], [], y))) := by
  refine zG_run t_Law [(.aload_n 1, 0, 0), (.aload_n 0, 0, 0), (.iload 4, 0, 0), (.iconst 1, 0, 0), (.iadd, 0, 0)] (1266, [some (zr (some (200, zSO))), some (zr (some (0, 0))), some (zr (some (11, 333))), some (zr (some (106, 380))), some (zi v4), none, none], [zi (v4 + 1), zr (some (200, zSO)), zr (some (0, 0))], h) (by decide +kernel) rfl ?_
  refine zG_scr (by decide +kernel) fun hb191 => ?_
  refine zG_callV (idx := 155) (R := (fun a => (some (zi a.1), a.2))) (as := [zi (X.2 (v4 + 1).toNatClampNeg)]) (rest := []) (n := 1) (fun a ha => c_Main_pick hl ha) (by decide +kernel) ⟨ok_Main_pick, by decide, by decide +kernel⟩ rfl wl_116 wl_117 wl_118 (by decide) rfl rfl rfl (Nat.le_of_ble_eq_true rfl) fun x192 => ?_
  refine zG_run t_Law [(.aload_n 2, 0, 0), (.aload_n 0, 0, 0), (.iload 4, 0, 0), (.iconst 1, 0, 0), (.iadd, 0, 0)] (1276, [some (zr (some (200, zSO))), some (zr (some (0, 0))), some (zr (some (11, 333))), some (zr (some (106, 380))), some (zi v4), none, none], [zi (v4 + 1), zr (some (200, zSO)), zr (some (11, 333)), zi x192.1], x192.2) (by decide +kernel) rfl ?_
  refine zG_scr (by decide +kernel) fun hb193 => ?_
  refine zG_callV (idx := 158) (R := (fun a => (some (zi a.1), a.2))) (as := [zi (X.2 (v4 + 1).toNatClampNeg)]) (rest := [zi x192.1]) (n := 1) (fun a ha => c_Mod_pick hl ha) (by decide +kernel) ⟨ok_Mod_pick, by decide, by decide +kernel⟩ rfl wl_119 wl_120 wl_121 (by decide) rfl rfl rfl (Nat.le_of_ble_eq_true rfl) fun x194 => ?_
  refine zG_icmp (op := .eq) (off := 419) (tgt := 1699) (by decide +kernel) rfl Iff.rfl (fun c195 => ?_) (fun c195 => ?_)
  · refine zG_run t_Law [(.iinc 4 6, 0, 0), (.goto (-1679), 0, 0)] (23, [some (zr (some (200, zSO))), some (zr (some (0, 0))), some (zr (some (11, 333))), some (zr (some (106, 380))), some (zi (v4 + 6)), none, none], [], x194.2) (by decide +kernel) rfl ?_
    exact zG_end (L' := [some (zr (some (200, zSO))), some (zr (some (0, 0))), some (zr (some (11, 333))), some (zr (some (106, 380))), some (zi (v4 + 6)), none, none]) rfl (And.intro rfl (And.intro rfl (And.intro rfl (And.intro rfl (And.intro rfl trivial)))))
  · exact zG_none
set_option maxRecDepth 20000 in
set_option maxHeartbeats 4000000 in
theorem k_law_a22 {l : Launch} {X : zX} (hl : l.stackTraces = false) {h : zH} {v4 : Int32} : zGl l m_law X 3 18 ((
                                                    (f_Main_undo h).bind fun x197 =>
                                                      (f_Mod_undo x197.2).bind fun x198 =>
                                                      if x197.1 = x198.1 then (
                                                      some (.inl ((v4 + 6), x198.2))) else (
                                                      none)) : Option ((Int32 × zH) ⊕ zH)) (1285, [some (zr (some (200, zSO))), some (zr (some (0, 0))), some (zr (some (11, 333))), some (zr (some (106, 380))), some (zi v4), none, none], [], h) (Sum.elim (fun s : Int32 × zH => .inl (23, [some (zr (some (200, zSO))), some (zr (some (0, 0))), some (zr (some (11, 333))), some (zr (some (106, 380))), some (zi s.1), none, none], [], s.2)) (fun y : zH => .inl (1705, [none, none, none, none, none, none, none], [], y))) := by
  refine zG_run t_Law [(.aload_n 1, 0, 0)] (1286, [some (zr (some (200, zSO))), some (zr (some (0, 0))), some (zr (some (11, 333))), some (zr (some (106, 380))), some (zi v4), none, none], [zr (some (0, 0))], h) (by decide +kernel) rfl ?_
  refine zG_callV (idx := 159) (R := (fun a => (some (zi a.1), a.2))) (as := []) (rest := []) (n := 0) (fun a ha => c_Main_undo hl ha) (by decide +kernel) ⟨ok_Main_undo, by decide, by decide +kernel⟩ rfl wl_122 wl_123 wl_124 (by decide) rfl rfl rfl (Nat.le_of_ble_eq_true rfl) fun x197 => ?_
  refine zG_run t_Law [(.aload_n 2, 0, 0)] (1290, [some (zr (some (200, zSO))), some (zr (some (0, 0))), some (zr (some (11, 333))), some (zr (some (106, 380))), some (zi v4), none, none], [zr (some (11, 333)), zi x197.1], x197.2) (by decide +kernel) rfl ?_
  refine zG_callV (idx := 162) (R := (fun a => (some (zi a.1), a.2))) (as := []) (rest := [zi x197.1]) (n := 0) (fun a ha => c_Mod_undo hl ha) (by decide +kernel) ⟨ok_Mod_undo, by decide, by decide +kernel⟩ rfl wl_125 wl_126 wl_127 (by decide) rfl rfl rfl (Nat.le_of_ble_eq_true rfl) fun x198 => ?_
  refine zG_icmp (op := .eq) (off := 406) (tgt := 1699) (by decide +kernel) rfl Iff.rfl (fun c199 => ?_) (fun c199 => ?_)
  · refine zG_run t_Law [(.iinc 4 6, 0, 0), (.goto (-1679), 0, 0)] (23, [some (zr (some (200, zSO))), some (zr (some (0, 0))), some (zr (some (11, 333))), some (zr (some (106, 380))), some (zi (v4 + 6)), none, none], [], x198.2) (by decide +kernel) rfl ?_
    exact zG_end (L' := [some (zr (some (200, zSO))), some (zr (some (0, 0))), some (zr (some (11, 333))), some (zr (some (106, 380))), some (zi (v4 + 6)), none, none]) rfl (And.intro rfl (And.intro rfl (And.intro rfl (And.intro rfl (And.intro rfl trivial)))))
  · exact zG_none
set_option maxRecDepth 20000 in
set_option maxHeartbeats 4000000 in
theorem k_law_a23 {l : Launch} {X : zX} (hl : l.stackTraces = false) {h : zH} {v4 : Int32} : zGl l m_law X 3 18 ((
                                                      zg (zb (v4 + 1) X.1) <|
                                                        zg (zb (v4 + 2) X.1) <|
                                                        zg (zb (v4 + 3) X.1) <|
                                                        (f_Main_note h (X.2 (v4 + 1).toNatClampNeg) (X.2 (v4 + 2).toNatClampNeg) (X.2 (v4 + 3).toNatClampNeg)).bind fun x204 =>
                                                        zg (zb (v4 + 1) X.1) <|
                                                        zg (zb (v4 + 2) X.1) <|
                                                        zg (zb (v4 + 3) X.1) <|
                                                        (f_Mod_note x204.2 (X.2 (v4 + 1).toNatClampNeg) (X.2 (v4 + 2).toNatClampNeg) (X.2 (v4 + 3).toNatClampNeg)).bind fun x208 =>
                                                        if x204.1 = x208.1 then (
                                                        some (.inl ((v4 + 6), x208.2))) else (
                                                        none)) : Option ((Int32 × zH) ⊕ zH)) (1298, [some (zr (some (200, zSO))), some (zr (some (0, 0))), some (zr (some (11, 333))), some (zr (some (106, 380))), some (zi v4), none, none], [], h) (Sum.elim (fun s : Int32 × zH => .inl (23, [some (zr (some (200, zSO))), some (zr (some (0, 0))), some (zr (some (11, 333))), some (zr (some (106, 380))), some (zi s.1), none, none], [], s.2)) (fun y : zH => .inl (1705, [none, none, none, none, none, none, none], [], y))) := by
  refine zG_run t_Law [(.aload_n 1, 0, 0), (.aload_n 0, 0, 0), (.iload 4, 0, 0), (.iconst 1, 0, 0), (.iadd, 0, 0)] (1304, [some (zr (some (200, zSO))), some (zr (some (0, 0))), some (zr (some (11, 333))), some (zr (some (106, 380))), some (zi v4), none, none], [zi (v4 + 1), zr (some (200, zSO)), zr (some (0, 0))], h) (by decide +kernel) rfl ?_
  refine zG_scr (by decide +kernel) fun hb201 => ?_
  refine zG_run t_Law [(.aload_n 0, 0, 0), (.iload 4, 0, 0), (.iconst 2, 0, 0), (.iadd, 0, 0)] (1310, [some (zr (some (200, zSO))), some (zr (some (0, 0))), some (zr (some (11, 333))), some (zr (some (106, 380))), some (zi v4), none, none], [zi (v4 + 2), zr (some (200, zSO)), zi (X.2 (v4 + 1).toNatClampNeg), zr (some (0, 0))], h) (by decide +kernel) rfl ?_
  refine zG_scr (by decide +kernel) fun hb202 => ?_
  refine zG_run t_Law [(.aload_n 0, 0, 0), (.iload 4, 0, 0), (.iconst 3, 0, 0), (.iadd, 0, 0)] (1316, [some (zr (some (200, zSO))), some (zr (some (0, 0))), some (zr (some (11, 333))), some (zr (some (106, 380))), some (zi v4), none, none], [zi (v4 + 3), zr (some (200, zSO)), zi (X.2 (v4 + 2).toNatClampNeg), zi (X.2 (v4 + 1).toNatClampNeg), zr (some (0, 0))], h) (by decide +kernel) rfl ?_
  refine zG_scr (by decide +kernel) fun hb203 => ?_
  refine zG_callV (idx := 163) (R := (fun a => (some (zi a.1), a.2))) (as := [zi (X.2 (v4 + 1).toNatClampNeg), zi (X.2 (v4 + 2).toNatClampNeg), zi (X.2 (v4 + 3).toNatClampNeg)]) (rest := []) (n := 3) (fun a ha => c_Main_note hl ha) (by decide +kernel) ⟨ok_Main_note, by decide, by decide +kernel⟩ rfl wl_128 wl_129 wl_130 (by decide) rfl rfl rfl (Nat.le_of_ble_eq_true rfl) fun x204 => ?_
  refine zG_run t_Law [(.aload_n 2, 0, 0), (.aload_n 0, 0, 0), (.iload 4, 0, 0), (.iconst 1, 0, 0), (.iadd, 0, 0)] (1326, [some (zr (some (200, zSO))), some (zr (some (0, 0))), some (zr (some (11, 333))), some (zr (some (106, 380))), some (zi v4), none, none], [zi (v4 + 1), zr (some (200, zSO)), zr (some (11, 333)), zi x204.1], x204.2) (by decide +kernel) rfl ?_
  refine zG_scr (by decide +kernel) fun hb205 => ?_
  refine zG_run t_Law [(.aload_n 0, 0, 0), (.iload 4, 0, 0), (.iconst 2, 0, 0), (.iadd, 0, 0)] (1332, [some (zr (some (200, zSO))), some (zr (some (0, 0))), some (zr (some (11, 333))), some (zr (some (106, 380))), some (zi v4), none, none], [zi (v4 + 2), zr (some (200, zSO)), zi (X.2 (v4 + 1).toNatClampNeg), zr (some (11, 333)), zi x204.1], x204.2) (by decide +kernel) rfl ?_
  refine zG_scr (by decide +kernel) fun hb206 => ?_
  refine zG_run t_Law [(.aload_n 0, 0, 0), (.iload 4, 0, 0), (.iconst 3, 0, 0), (.iadd, 0, 0)] (1338, [some (zr (some (200, zSO))), some (zr (some (0, 0))), some (zr (some (11, 333))), some (zr (some (106, 380))), some (zi v4), none, none], [zi (v4 + 3), zr (some (200, zSO)), zi (X.2 (v4 + 2).toNatClampNeg), zi (X.2 (v4 + 1).toNatClampNeg), zr (some (11, 333)), zi x204.1], x204.2) (by decide +kernel) rfl ?_
  refine zG_scr (by decide +kernel) fun hb207 => ?_
  refine zG_callV (idx := 166) (R := (fun a => (some (zi a.1), a.2))) (as := [zi (X.2 (v4 + 1).toNatClampNeg), zi (X.2 (v4 + 2).toNatClampNeg), zi (X.2 (v4 + 3).toNatClampNeg)]) (rest := [zi x204.1]) (n := 3) (fun a ha => c_Mod_note hl ha) (by decide +kernel) ⟨ok_Mod_note, by decide, by decide +kernel⟩ rfl wl_131 wl_132 wl_133 (by decide) rfl rfl rfl (Nat.le_of_ble_eq_true rfl) fun x208 => ?_
  refine zG_icmp (op := .eq) (off := 357) (tgt := 1699) (by decide +kernel) rfl Iff.rfl (fun c209 => ?_) (fun c209 => ?_)
  · refine zG_run t_Law [(.iinc 4 6, 0, 0), (.goto (-1679), 0, 0)] (23, [some (zr (some (200, zSO))), some (zr (some (0, 0))), some (zr (some (11, 333))), some (zr (some (106, 380))), some (zi (v4 + 6)), none, none], [], x208.2) (by decide +kernel) rfl ?_
    exact zG_end (L' := [some (zr (some (200, zSO))), some (zr (some (0, 0))), some (zr (some (11, 333))), some (zr (some (106, 380))), some (zi (v4 + 6)), none, none]) rfl (And.intro rfl (And.intro rfl (And.intro rfl (And.intro rfl (And.intro rfl trivial)))))
  · exact zG_none
set_option maxRecDepth 20000 in
set_option maxHeartbeats 4000000 in
theorem k_law_a24 {l : Launch} {X : zX} (hl : l.stackTraces = false) {h : zH} {v4 : Int32} : zGl l m_law X 3 18 ((
                                                        zg (zb (v4 + 1) X.1) <|
                                                          (f_L_fits h (X.2 (v4 + 1).toNatClampNeg)).bind fun x212 =>
                                                          zg (zb (v4 + 1) X.1) <|
                                                          (f_Mod_fits x212.2 (X.2 (v4 + 1).toNatClampNeg)).bind fun x214 =>
                                                          (f_Mod_thrown x214.2).bind fun x215 =>
                                                          if x215 = x212.1 then (
                                                          if ¬ x212.1 = 0 then (
                                                            some (.inl ((v4 + 6), x214.2))) else (
                                                            if (x214.2.2.1 380 0) = x214.1.toInt64 then (
                                                              some (.inl ((v4 + 6), x214.2))) else (
                                                              none))) else (
                                                          none)) : Option ((Int32 × zH) ⊕ zH)) (1347, [some (zr (some (200, zSO))), some (zr (some (0, 0))), some (zr (some (11, 333))), some (zr (some (106, 380))), some (zi v4), none, none], [], h) (Sum.elim (fun s : Int32 × zH => .inl (23, [some (zr (some (200, zSO))), some (zr (some (0, 0))), some (zr (some (11, 333))), some (zr (some (106, 380))), some (zi s.1), none, none], [], s.2)) (fun y : zH => .inl (1705, [none, none, none, none, none, none, none], [], y))) := by
  refine zG_run t_Law [(.aload_n 1, 0, 0), (.aload_n 0, 0, 0), (.iload 4, 0, 0), (.iconst 1, 0, 0), (.iadd, 0, 0)] (1353, [some (zr (some (200, zSO))), some (zr (some (0, 0))), some (zr (some (11, 333))), some (zr (some (106, 380))), some (zi v4), none, none], [zi (v4 + 1), zr (some (200, zSO)), zr (some (0, 0))], h) (by decide +kernel) rfl ?_
  refine zG_scr (by decide +kernel) fun hb211 => ?_
  refine zG_run t_Law [(.aload_n 3, 0, 0)] (1355, [some (zr (some (200, zSO))), some (zr (some (0, 0))), some (zr (some (11, 333))), some (zr (some (106, 380))), some (zi v4), none, none], [zr (some (106, 380)), zi (X.2 (v4 + 1).toNatClampNeg), zr (some (0, 0))], h) (by decide +kernel) rfl ?_
  refine zG_mono (bc' := 0 + 1) (bs' := 0 + 6) (by decide) (by decide) ?_
  refine zG_callSX (idx := 167) (as := [zr (some (0, 0)), zi (X.2 (v4 + 1).toNatClampNeg), zr (some (106, 380))]) (rest := []) (n := 3) (fun a ha => c_L_fits hl ha) (by decide +kernel) ⟨ok_L_fits, by decide, by decide +kernel⟩ rfl wl_137 wl_138 rfl rfl (Nat.le_of_ble_eq_true rfl) fun x212 => ?_
  refine zG_run t_Law [(.istore 5, 0, 0), (.aload_n 2, 0, 0), (.aload_n 0, 0, 0), (.iload 4, 0, 0), (.iconst 1, 0, 0), (.iadd, 0, 0)] (1366, [some (zr (some (200, zSO))), some (zr (some (0, 0))), some (zr (some (11, 333))), some (zr (some (106, 380))), some (zi v4), some (zi x212.1), none], [zi (v4 + 1), zr (some (200, zSO)), zr (some (11, 333))], x212.2) (by decide +kernel) rfl ?_
  refine zG_scr (by decide +kernel) fun hb213 => ?_
  refine zG_callV (idx := 169) (R := (fun a => (some (zi a.1), a.2))) (as := [zi (X.2 (v4 + 1).toNatClampNeg)]) (rest := []) (n := 1) (fun a ha => c_Mod_fits hl ha) (by decide +kernel) ⟨ok_Mod_fits, by decide, by decide +kernel⟩ rfl wl_134 wl_135 wl_136 (by decide) rfl rfl rfl (Nat.le_of_ble_eq_true rfl) fun x214 => ?_
  refine zG_run t_Law [(.istore 6, 0, 0), (.aload_n 2, 0, 0)] (1373, [some (zr (some (200, zSO))), some (zr (some (0, 0))), some (zr (some (11, 333))), some (zr (some (106, 380))), some (zi v4), some (zi x212.1), some (zi x214.1)], [zr (some (11, 333))], x214.2) (by decide +kernel) rfl ?_
  refine zG_callV (idx := 85) (R := (fun a => (some (zi a), x214.2))) (as := []) (rest := []) (n := 0) (fun a ha => c_Mod_thrown hl ha) (by decide +kernel) ⟨ok_Mod_thrown, by decide, by decide +kernel⟩ rfl wl_9 wl_10 wl_11 (by decide) rfl rfl rfl (Nat.le_of_ble_eq_true rfl) fun x215 => ?_
  refine zG_run t_Law [(.iload 5, 0, 0)] (1378, [some (zr (some (200, zSO))), some (zr (some (0, 0))), some (zr (some (11, 333))), some (zr (some (106, 380))), some (zi v4), some (zi x212.1), some (zi x214.1)], [zi x212.1, zi x215], x214.2) (by decide +kernel) rfl ?_
  refine zG_icmp (op := .eq) (off := 5) (tgt := 1383) (by decide +kernel) rfl Iff.rfl (fun c218 => ?_) (fun c218 => ?_)
  · refine zG_run t_Law [(.iload 5, 0, 0)] (1385, [some (zr (some (200, zSO))), some (zr (some (0, 0))), some (zr (some (11, 333))), some (zr (some (106, 380))), some (zi v4), some (zi x212.1), some (zi x214.1)], [zi x212.1], x214.2) (by decide +kernel) rfl ?_
    refine zG_if (op := .ne) (off := 15) (tgt := 1400) (by decide +kernel) rfl Iff.rfl (fun c217 => ?_) (fun c217 => ?_)
    · refine zG_run t_Law [(.goto 299, 0, 0), (.iinc 4 6, 0, 0), (.goto (-1679), 0, 0)] (23, [some (zr (some (200, zSO))), some (zr (some (0, 0))), some (zr (some (11, 333))), some (zr (some (106, 380))), some (zi (v4 + 6)), some (zi x212.1), some (zi x214.1)], [], x214.2) (by decide +kernel) rfl ?_
      exact zG_end (L' := [some (zr (some (200, zSO))), some (zr (some (0, 0))), some (zr (some (11, 333))), some (zr (some (106, 380))), some (zi (v4 + 6)), none, none]) rfl (And.intro rfl (And.intro rfl (And.intro rfl (And.intro rfl (And.intro rfl trivial)))))
    · refine zG_run t_Law [(.aload_n 3, 0, 0), (.iconst 0, 0, 0)] (1390, [some (zr (some (200, zSO))), some (zr (some (0, 0))), some (zr (some (11, 333))), some (zr (some (106, 380))), some (zi v4), some (zi x212.1), some (zi x214.1)], [zi 0, zr (some (106, 380))], x214.2) (by decide +kernel) rfl ?_
      refine zG_aldc (v := zl (x214.2.2.1 380 0)) rfl (by decide +kernel) (by decide +kernel) rfl ?_
      refine zG_run t_Law [(.iload 6, 0, 0), (.i2l, 0, 0), (.lcmp, 0, 0)] (1395, [some (zr (some (200, zSO))), some (zr (some (0, 0))), some (zr (some (11, 333))), some (zr (some (106, 380))), some (zi v4), some (zi x212.1), some (zi x214.1)], [zi (lg_cmp (x214.2.2.1 380 0) x214.1.toInt64)], x214.2) (by decide +kernel) rfl ?_
      refine zG_if (op := .eq) (off := 5) (tgt := 1400) (by decide +kernel) rfl zcmp0 (fun c216 => ?_) (fun c216 => ?_)
      · refine zG_run t_Law [(.goto 299, 0, 0), (.iinc 4 6, 0, 0), (.goto (-1679), 0, 0)] (23, [some (zr (some (200, zSO))), some (zr (some (0, 0))), some (zr (some (11, 333))), some (zr (some (106, 380))), some (zi (v4 + 6)), some (zi x212.1), some (zi x214.1)], [], x214.2) (by decide +kernel) rfl ?_
        exact zG_end (L' := [some (zr (some (200, zSO))), some (zr (some (0, 0))), some (zr (some (11, 333))), some (zr (some (106, 380))), some (zi (v4 + 6)), none, none]) rfl (And.intro rfl (And.intro rfl (And.intro rfl (And.intro rfl (And.intro rfl trivial)))))
      · exact zG_none
  · exact zG_none
set_option maxRecDepth 20000 in
set_option maxHeartbeats 4000000 in
theorem k_law_a25 {l : Launch} {X : zX} (hl : l.stackTraces = false) {h : zH} {v4 : Int32} : zGl l m_law X 3 18 ((
                                                          zg (zb (v4 + 1) X.1) <|
                                                            (f_L_look h (X.2 (v4 + 1).toNatClampNeg)).bind fun x221 =>
                                                            zg (zb (v4 + 1) X.1) <|
                                                            (f_Mod_look x221.2 (X.2 (v4 + 1).toNatClampNeg)).bind fun x223 =>
                                                            (f_Mod_thrown x223.2).bind fun x224 =>
                                                            if x224 = x221.1 then (
                                                            if ¬ x221.1 = 0 then (
                                                              some (.inl ((v4 + 6), x223.2))) else (
                                                              if (x223.2.2.1 380 0) = x223.1.toInt64 then (
                                                                some (.inl ((v4 + 6), x223.2))) else (
                                                                none))) else (
                                                            none)) : Option ((Int32 × zH) ⊕ zH)) (1403, [some (zr (some (200, zSO))), some (zr (some (0, 0))), some (zr (some (11, 333))), some (zr (some (106, 380))), some (zi v4), none, none], [], h) (Sum.elim (fun s : Int32 × zH => .inl (23, [some (zr (some (200, zSO))), some (zr (some (0, 0))), some (zr (some (11, 333))), some (zr (some (106, 380))), some (zi s.1), none, none], [], s.2)) (fun y : zH => .inl (1705, [none, none, none, none, none, none, none], [], y))) := by
  refine zG_run t_Law [(.aload_n 1, 0, 0), (.aload_n 0, 0, 0), (.iload 4, 0, 0), (.iconst 1, 0, 0), (.iadd, 0, 0)] (1409, [some (zr (some (200, zSO))), some (zr (some (0, 0))), some (zr (some (11, 333))), some (zr (some (106, 380))), some (zi v4), none, none], [zi (v4 + 1), zr (some (200, zSO)), zr (some (0, 0))], h) (by decide +kernel) rfl ?_
  refine zG_scr (by decide +kernel) fun hb220 => ?_
  refine zG_run t_Law [(.aload_n 3, 0, 0)] (1411, [some (zr (some (200, zSO))), some (zr (some (0, 0))), some (zr (some (11, 333))), some (zr (some (106, 380))), some (zi v4), none, none], [zr (some (106, 380)), zi (X.2 (v4 + 1).toNatClampNeg), zr (some (0, 0))], h) (by decide +kernel) rfl ?_
  refine zG_mono (bc' := 0 + 1) (bs' := 0 + 6) (by decide) (by decide) ?_
  refine zG_callSX (idx := 170) (as := [zr (some (0, 0)), zi (X.2 (v4 + 1).toNatClampNeg), zr (some (106, 380))]) (rest := []) (n := 3) (fun a ha => c_L_look hl ha) (by decide +kernel) ⟨ok_L_look, by decide, by decide +kernel⟩ rfl wl_142 wl_143 rfl rfl (Nat.le_of_ble_eq_true rfl) fun x221 => ?_
  refine zG_run t_Law [(.istore 5, 0, 0), (.aload_n 2, 0, 0), (.aload_n 0, 0, 0), (.iload 4, 0, 0), (.iconst 1, 0, 0), (.iadd, 0, 0)] (1422, [some (zr (some (200, zSO))), some (zr (some (0, 0))), some (zr (some (11, 333))), some (zr (some (106, 380))), some (zi v4), some (zi x221.1), none], [zi (v4 + 1), zr (some (200, zSO)), zr (some (11, 333))], x221.2) (by decide +kernel) rfl ?_
  refine zG_scr (by decide +kernel) fun hb222 => ?_
  refine zG_callV (idx := 172) (R := (fun a => (some (zi a.1), a.2))) (as := [zi (X.2 (v4 + 1).toNatClampNeg)]) (rest := []) (n := 1) (fun a ha => c_Mod_look hl ha) (by decide +kernel) ⟨ok_Mod_look, by decide, by decide +kernel⟩ rfl wl_139 wl_140 wl_141 (by decide) rfl rfl rfl (Nat.le_of_ble_eq_true rfl) fun x223 => ?_
  refine zG_run t_Law [(.istore 6, 0, 0), (.aload_n 2, 0, 0)] (1429, [some (zr (some (200, zSO))), some (zr (some (0, 0))), some (zr (some (11, 333))), some (zr (some (106, 380))), some (zi v4), some (zi x221.1), some (zi x223.1)], [zr (some (11, 333))], x223.2) (by decide +kernel) rfl ?_
  refine zG_callV (idx := 85) (R := (fun a => (some (zi a), x223.2))) (as := []) (rest := []) (n := 0) (fun a ha => c_Mod_thrown hl ha) (by decide +kernel) ⟨ok_Mod_thrown, by decide, by decide +kernel⟩ rfl wl_9 wl_10 wl_11 (by decide) rfl rfl rfl (Nat.le_of_ble_eq_true rfl) fun x224 => ?_
  refine zG_run t_Law [(.iload 5, 0, 0)] (1434, [some (zr (some (200, zSO))), some (zr (some (0, 0))), some (zr (some (11, 333))), some (zr (some (106, 380))), some (zi v4), some (zi x221.1), some (zi x223.1)], [zi x221.1, zi x224], x223.2) (by decide +kernel) rfl ?_
  refine zG_icmp (op := .eq) (off := 5) (tgt := 1439) (by decide +kernel) rfl Iff.rfl (fun c227 => ?_) (fun c227 => ?_)
  · refine zG_run t_Law [(.iload 5, 0, 0)] (1441, [some (zr (some (200, zSO))), some (zr (some (0, 0))), some (zr (some (11, 333))), some (zr (some (106, 380))), some (zi v4), some (zi x221.1), some (zi x223.1)], [zi x221.1], x223.2) (by decide +kernel) rfl ?_
    refine zG_if (op := .ne) (off := 15) (tgt := 1456) (by decide +kernel) rfl Iff.rfl (fun c226 => ?_) (fun c226 => ?_)
    · refine zG_run t_Law [(.goto 243, 0, 0), (.iinc 4 6, 0, 0), (.goto (-1679), 0, 0)] (23, [some (zr (some (200, zSO))), some (zr (some (0, 0))), some (zr (some (11, 333))), some (zr (some (106, 380))), some (zi (v4 + 6)), some (zi x221.1), some (zi x223.1)], [], x223.2) (by decide +kernel) rfl ?_
      exact zG_end (L' := [some (zr (some (200, zSO))), some (zr (some (0, 0))), some (zr (some (11, 333))), some (zr (some (106, 380))), some (zi (v4 + 6)), none, none]) rfl (And.intro rfl (And.intro rfl (And.intro rfl (And.intro rfl (And.intro rfl trivial)))))
    · refine zG_run t_Law [(.aload_n 3, 0, 0), (.iconst 0, 0, 0)] (1446, [some (zr (some (200, zSO))), some (zr (some (0, 0))), some (zr (some (11, 333))), some (zr (some (106, 380))), some (zi v4), some (zi x221.1), some (zi x223.1)], [zi 0, zr (some (106, 380))], x223.2) (by decide +kernel) rfl ?_
      refine zG_aldc (v := zl (x223.2.2.1 380 0)) rfl (by decide +kernel) (by decide +kernel) rfl ?_
      refine zG_run t_Law [(.iload 6, 0, 0), (.i2l, 0, 0), (.lcmp, 0, 0)] (1451, [some (zr (some (200, zSO))), some (zr (some (0, 0))), some (zr (some (11, 333))), some (zr (some (106, 380))), some (zi v4), some (zi x221.1), some (zi x223.1)], [zi (lg_cmp (x223.2.2.1 380 0) x223.1.toInt64)], x223.2) (by decide +kernel) rfl ?_
      refine zG_if (op := .eq) (off := 5) (tgt := 1456) (by decide +kernel) rfl zcmp0 (fun c225 => ?_) (fun c225 => ?_)
      · refine zG_run t_Law [(.goto 243, 0, 0), (.iinc 4 6, 0, 0), (.goto (-1679), 0, 0)] (23, [some (zr (some (200, zSO))), some (zr (some (0, 0))), some (zr (some (11, 333))), some (zr (some (106, 380))), some (zi (v4 + 6)), some (zi x221.1), some (zi x223.1)], [], x223.2) (by decide +kernel) rfl ?_
        exact zG_end (L' := [some (zr (some (200, zSO))), some (zr (some (0, 0))), some (zr (some (11, 333))), some (zr (some (106, 380))), some (zi (v4 + 6)), none, none]) rfl (And.intro rfl (And.intro rfl (And.intro rfl (And.intro rfl (And.intro rfl trivial)))))
      · exact zG_none
  · exact zG_none
set_option maxRecDepth 20000 in
set_option maxHeartbeats 4000000 in
theorem k_law_a26 {l : Launch} {X : zX} (hl : l.stackTraces = false) {h : zH} {v4 : Int32} : zGl l m_law X 3 18 ((
                                                            (f_Main_forget h).bind fun x229 =>
                                                              (f_Mod_forget x229).bind fun x230 =>
                                                              some (.inl ((v4 + 6), x230))) : Option ((Int32 × zH) ⊕ zH)) (1459, [some (zr (some (200, zSO))), some (zr (some (0, 0))), some (zr (some (11, 333))), some (zr (some (106, 380))), some (zi v4), none, none], [], h) (Sum.elim (fun s : Int32 × zH => .inl (23, [some (zr (some (200, zSO))), some (zr (some (0, 0))), some (zr (some (11, 333))), some (zr (some (106, 380))), some (zi s.1), none, none], [], s.2)) (fun y : zH => .inl (1705, [none, none, none, none, none, none, none], [], y))) := by
  refine zG_run t_Law [(.aload_n 1, 0, 0)] (1460, [some (zr (some (200, zSO))), some (zr (some (0, 0))), some (zr (some (11, 333))), some (zr (some (106, 380))), some (zi v4), none, none], [zr (some (0, 0))], h) (by decide +kernel) rfl ?_
  refine zG_callV (idx := 173) (R := (fun a => (none, a))) (as := []) (rest := []) (n := 0) (fun a ha => c_Main_forget hl ha) (by decide +kernel) ⟨ok_Main_forget, by decide, by decide +kernel⟩ rfl wl_144 wl_145 wl_146 (by decide) rfl rfl rfl (Nat.le_of_ble_eq_true rfl) fun x229 => ?_
  refine zG_run t_Law [(.aload_n 2, 0, 0)] (1464, [some (zr (some (200, zSO))), some (zr (some (0, 0))), some (zr (some (11, 333))), some (zr (some (106, 380))), some (zi v4), none, none], [zr (some (11, 333))], x229) (by decide +kernel) rfl ?_
  refine zG_callV (idx := 176) (R := (fun a => (none, a))) (as := []) (rest := []) (n := 0) (fun a ha => c_Mod_forget hl ha) (by decide +kernel) ⟨ok_Mod_forget, by decide, by decide +kernel⟩ rfl wl_147 wl_148 wl_149 (by decide) rfl rfl rfl (Nat.le_of_ble_eq_true rfl) fun x230 => ?_
  refine zG_run t_Law [(.goto 232, 0, 0), (.iinc 4 6, 0, 0), (.goto (-1679), 0, 0)] (23, [some (zr (some (200, zSO))), some (zr (some (0, 0))), some (zr (some (11, 333))), some (zr (some (106, 380))), some (zi (v4 + 6)), none, none], [], x230) (by decide +kernel) rfl ?_
  exact zG_end (L' := [some (zr (some (200, zSO))), some (zr (some (0, 0))), some (zr (some (11, 333))), some (zr (some (106, 380))), some (zi (v4 + 6)), none, none]) rfl (And.intro rfl (And.intro rfl (And.intro rfl (And.intro rfl (And.intro rfl trivial)))))
set_option maxRecDepth 20000 in
set_option maxHeartbeats 4000000 in
theorem k_law_a27 {l : Launch} {X : zX} (hl : l.stackTraces = false) {h : zH} {v4 : Int32} : zGl l m_law X 3 18 ((
                                                              zg (zb (v4 + 1) X.1) <|
                                                                (f_L_behind h (X.2 (v4 + 1).toNatClampNeg)).bind fun x233 =>
                                                                zg (zb (v4 + 1) X.1) <|
                                                                (f_Mod_behind x233.2 (X.2 (v4 + 1).toNatClampNeg)).bind fun x235 =>
                                                                (f_Mod_thrown x235.2).bind fun x236 =>
                                                                if x236 = x233.1 then (
                                                                if ¬ x233.1 = 0 then (
                                                                  some (.inl ((v4 + 6), x235.2))) else (
                                                                  if (x235.2.2.1 380 0) = x235.1.toInt64 then (
                                                                    some (.inl ((v4 + 6), x235.2))) else (
                                                                    none))) else (
                                                                none)) : Option ((Int32 × zH) ⊕ zH)) (1470, [some (zr (some (200, zSO))), some (zr (some (0, 0))), some (zr (some (11, 333))), some (zr (some (106, 380))), some (zi v4), none, none], [], h) (Sum.elim (fun s : Int32 × zH => .inl (23, [some (zr (some (200, zSO))), some (zr (some (0, 0))), some (zr (some (11, 333))), some (zr (some (106, 380))), some (zi s.1), none, none], [], s.2)) (fun y : zH => .inl (1705, [none, none, none, none, none, none, none], [], y))) := by
  refine zG_run t_Law [(.aload_n 1, 0, 0), (.aload_n 0, 0, 0), (.iload 4, 0, 0), (.iconst 1, 0, 0), (.iadd, 0, 0)] (1476, [some (zr (some (200, zSO))), some (zr (some (0, 0))), some (zr (some (11, 333))), some (zr (some (106, 380))), some (zi v4), none, none], [zi (v4 + 1), zr (some (200, zSO)), zr (some (0, 0))], h) (by decide +kernel) rfl ?_
  refine zG_scr (by decide +kernel) fun hb232 => ?_
  refine zG_run t_Law [(.aload_n 3, 0, 0)] (1478, [some (zr (some (200, zSO))), some (zr (some (0, 0))), some (zr (some (11, 333))), some (zr (some (106, 380))), some (zi v4), none, none], [zr (some (106, 380)), zi (X.2 (v4 + 1).toNatClampNeg), zr (some (0, 0))], h) (by decide +kernel) rfl ?_
  refine zG_mono (bc' := 0 + 1) (bs' := 0 + 6) (by decide) (by decide) ?_
  refine zG_callSX (idx := 177) (as := [zr (some (0, 0)), zi (X.2 (v4 + 1).toNatClampNeg), zr (some (106, 380))]) (rest := []) (n := 3) (fun a ha => c_L_behind hl ha) (by decide +kernel) ⟨ok_L_behind, by decide, by decide +kernel⟩ rfl wl_153 wl_154 rfl rfl (Nat.le_of_ble_eq_true rfl) fun x233 => ?_
  refine zG_run t_Law [(.istore 5, 0, 0), (.aload_n 2, 0, 0), (.aload_n 0, 0, 0), (.iload 4, 0, 0), (.iconst 1, 0, 0), (.iadd, 0, 0)] (1489, [some (zr (some (200, zSO))), some (zr (some (0, 0))), some (zr (some (11, 333))), some (zr (some (106, 380))), some (zi v4), some (zi x233.1), none], [zi (v4 + 1), zr (some (200, zSO)), zr (some (11, 333))], x233.2) (by decide +kernel) rfl ?_
  refine zG_scr (by decide +kernel) fun hb234 => ?_
  refine zG_callV (idx := 179) (R := (fun a => (some (zi a.1), a.2))) (as := [zi (X.2 (v4 + 1).toNatClampNeg)]) (rest := []) (n := 1) (fun a ha => c_Mod_behind hl ha) (by decide +kernel) ⟨ok_Mod_behind, by decide, by decide +kernel⟩ rfl wl_150 wl_151 wl_152 (by decide) rfl rfl rfl (Nat.le_of_ble_eq_true rfl) fun x235 => ?_
  refine zG_run t_Law [(.istore 6, 0, 0), (.aload_n 2, 0, 0)] (1496, [some (zr (some (200, zSO))), some (zr (some (0, 0))), some (zr (some (11, 333))), some (zr (some (106, 380))), some (zi v4), some (zi x233.1), some (zi x235.1)], [zr (some (11, 333))], x235.2) (by decide +kernel) rfl ?_
  refine zG_callV (idx := 85) (R := (fun a => (some (zi a), x235.2))) (as := []) (rest := []) (n := 0) (fun a ha => c_Mod_thrown hl ha) (by decide +kernel) ⟨ok_Mod_thrown, by decide, by decide +kernel⟩ rfl wl_9 wl_10 wl_11 (by decide) rfl rfl rfl (Nat.le_of_ble_eq_true rfl) fun x236 => ?_
  refine zG_run t_Law [(.iload 5, 0, 0)] (1501, [some (zr (some (200, zSO))), some (zr (some (0, 0))), some (zr (some (11, 333))), some (zr (some (106, 380))), some (zi v4), some (zi x233.1), some (zi x235.1)], [zi x233.1, zi x236], x235.2) (by decide +kernel) rfl ?_
  refine zG_icmp (op := .eq) (off := 5) (tgt := 1506) (by decide +kernel) rfl Iff.rfl (fun c239 => ?_) (fun c239 => ?_)
  · refine zG_run t_Law [(.iload 5, 0, 0)] (1508, [some (zr (some (200, zSO))), some (zr (some (0, 0))), some (zr (some (11, 333))), some (zr (some (106, 380))), some (zi v4), some (zi x233.1), some (zi x235.1)], [zi x233.1], x235.2) (by decide +kernel) rfl ?_
    refine zG_if (op := .ne) (off := 15) (tgt := 1523) (by decide +kernel) rfl Iff.rfl (fun c238 => ?_) (fun c238 => ?_)
    · refine zG_run t_Law [(.goto 176, 0, 0), (.iinc 4 6, 0, 0), (.goto (-1679), 0, 0)] (23, [some (zr (some (200, zSO))), some (zr (some (0, 0))), some (zr (some (11, 333))), some (zr (some (106, 380))), some (zi (v4 + 6)), some (zi x233.1), some (zi x235.1)], [], x235.2) (by decide +kernel) rfl ?_
      exact zG_end (L' := [some (zr (some (200, zSO))), some (zr (some (0, 0))), some (zr (some (11, 333))), some (zr (some (106, 380))), some (zi (v4 + 6)), none, none]) rfl (And.intro rfl (And.intro rfl (And.intro rfl (And.intro rfl (And.intro rfl trivial)))))
    · refine zG_run t_Law [(.aload_n 3, 0, 0), (.iconst 0, 0, 0)] (1513, [some (zr (some (200, zSO))), some (zr (some (0, 0))), some (zr (some (11, 333))), some (zr (some (106, 380))), some (zi v4), some (zi x233.1), some (zi x235.1)], [zi 0, zr (some (106, 380))], x235.2) (by decide +kernel) rfl ?_
      refine zG_aldc (v := zl (x235.2.2.1 380 0)) rfl (by decide +kernel) (by decide +kernel) rfl ?_
      refine zG_run t_Law [(.iload 6, 0, 0), (.i2l, 0, 0), (.lcmp, 0, 0)] (1518, [some (zr (some (200, zSO))), some (zr (some (0, 0))), some (zr (some (11, 333))), some (zr (some (106, 380))), some (zi v4), some (zi x233.1), some (zi x235.1)], [zi (lg_cmp (x235.2.2.1 380 0) x235.1.toInt64)], x235.2) (by decide +kernel) rfl ?_
      refine zG_if (op := .eq) (off := 5) (tgt := 1523) (by decide +kernel) rfl zcmp0 (fun c237 => ?_) (fun c237 => ?_)
      · refine zG_run t_Law [(.goto 176, 0, 0), (.iinc 4 6, 0, 0), (.goto (-1679), 0, 0)] (23, [some (zr (some (200, zSO))), some (zr (some (0, 0))), some (zr (some (11, 333))), some (zr (some (106, 380))), some (zi (v4 + 6)), some (zi x233.1), some (zi x235.1)], [], x235.2) (by decide +kernel) rfl ?_
        exact zG_end (L' := [some (zr (some (200, zSO))), some (zr (some (0, 0))), some (zr (some (11, 333))), some (zr (some (106, 380))), some (zi (v4 + 6)), none, none]) rfl (And.intro rfl (And.intro rfl (And.intro rfl (And.intro rfl (And.intro rfl trivial)))))
      · exact zG_none
  · exact zG_none
set_option maxRecDepth 20000 in
set_option maxHeartbeats 4000000 in
theorem k_law_a28 {l : Launch} {X : zX} (hl : l.stackTraces = false) {h : zH} {v4 : Int32} : zGl l m_law X 3 18 ((
                                                                (f_Main_back h).bind fun x241 =>
                                                                  (f_Mod_back h).bind fun x242 =>
                                                                  if x241 = x242.1 then (
                                                                  some (.inl ((v4 + 6), x242.2))) else (
                                                                  none)) : Option ((Int32 × zH) ⊕ zH)) (1526, [some (zr (some (200, zSO))), some (zr (some (0, 0))), some (zr (some (11, 333))), some (zr (some (106, 380))), some (zi v4), none, none], [], h) (Sum.elim (fun s : Int32 × zH => .inl (23, [some (zr (some (200, zSO))), some (zr (some (0, 0))), some (zr (some (11, 333))), some (zr (some (106, 380))), some (zi s.1), none, none], [], s.2)) (fun y : zH => .inl (1705, [none, none, none, none, none, none, none], [], y))) := by
  refine zG_run t_Law [(.aload_n 1, 0, 0)] (1527, [some (zr (some (200, zSO))), some (zr (some (0, 0))), some (zr (some (11, 333))), some (zr (some (106, 380))), some (zi v4), none, none], [zr (some (0, 0))], h) (by decide +kernel) rfl ?_
  refine zG_callV (idx := 180) (R := (fun a => (some (zi a), h))) (as := []) (rest := []) (n := 0) (fun a ha => c_Main_back hl ha) (by decide +kernel) ⟨ok_Main_back, by decide, by decide +kernel⟩ rfl wl_155 wl_156 wl_157 (by decide) rfl rfl rfl (Nat.le_of_ble_eq_true rfl) fun x241 => ?_
  refine zG_run t_Law [(.aload_n 2, 0, 0)] (1531, [some (zr (some (200, zSO))), some (zr (some (0, 0))), some (zr (some (11, 333))), some (zr (some (106, 380))), some (zi v4), none, none], [zr (some (11, 333)), zi x241], h) (by decide +kernel) rfl ?_
  refine zG_callV (idx := 183) (R := (fun a => (some (zi a.1), a.2))) (as := []) (rest := [zi x241]) (n := 0) (fun a ha => c_Mod_back hl ha) (by decide +kernel) ⟨ok_Mod_back, by decide, by decide +kernel⟩ rfl wl_158 wl_159 wl_160 (by decide) rfl rfl rfl (Nat.le_of_ble_eq_true rfl) fun x242 => ?_
  refine zG_icmp (op := .eq) (off := 165) (tgt := 1699) (by decide +kernel) rfl Iff.rfl (fun c243 => ?_) (fun c243 => ?_)
  · refine zG_run t_Law [(.iinc 4 6, 0, 0), (.goto (-1679), 0, 0)] (23, [some (zr (some (200, zSO))), some (zr (some (0, 0))), some (zr (some (11, 333))), some (zr (some (106, 380))), some (zi (v4 + 6)), none, none], [], x242.2) (by decide +kernel) rfl ?_
    exact zG_end (L' := [some (zr (some (200, zSO))), some (zr (some (0, 0))), some (zr (some (11, 333))), some (zr (some (106, 380))), some (zi (v4 + 6)), none, none]) rfl (And.intro rfl (And.intro rfl (And.intro rfl (And.intro rfl (And.intro rfl trivial)))))
  · exact zG_none
set_option maxRecDepth 20000 in
set_option maxHeartbeats 4000000 in
theorem k_law_a29 {l : Launch} {X : zX} (hl : l.stackTraces = false) {h : zH} {v4 : Int32} : zGl l m_law X 3 18 ((
                                                                  zg (zb (v4 + 1) X.1) <|
                                                                    (f_L_tells h (X.2 (v4 + 1).toNatClampNeg)).bind fun x246 =>
                                                                    zg (zb (v4 + 1) X.1) <|
                                                                    (f_Mod_tells x246.2 (X.2 (v4 + 1).toNatClampNeg)).bind fun x248 =>
                                                                    (f_Mod_thrown x248.2).bind fun x249 =>
                                                                    if x249 = x246.1 then (
                                                                    if ¬ x246.1 = 0 then (
                                                                      some (.inl ((v4 + 6), x248.2))) else (
                                                                      if (x248.2.2.1 380 0) = x248.1.toInt64 then (
                                                                        some (.inl ((v4 + 6), x248.2))) else (
                                                                        none))) else (
                                                                    none)) : Option ((Int32 × zH) ⊕ zH)) (1539, [some (zr (some (200, zSO))), some (zr (some (0, 0))), some (zr (some (11, 333))), some (zr (some (106, 380))), some (zi v4), none, none], [], h) (Sum.elim (fun s : Int32 × zH => .inl (23, [some (zr (some (200, zSO))), some (zr (some (0, 0))), some (zr (some (11, 333))), some (zr (some (106, 380))), some (zi s.1), none, none], [], s.2)) (fun y : zH => .inl (1705, [none, none, none, none, none, none, none], [], y))) := by
  refine zG_run t_Law [(.aload_n 1, 0, 0), (.aload_n 0, 0, 0), (.iload 4, 0, 0), (.iconst 1, 0, 0), (.iadd, 0, 0)] (1545, [some (zr (some (200, zSO))), some (zr (some (0, 0))), some (zr (some (11, 333))), some (zr (some (106, 380))), some (zi v4), none, none], [zi (v4 + 1), zr (some (200, zSO)), zr (some (0, 0))], h) (by decide +kernel) rfl ?_
  refine zG_scr (by decide +kernel) fun hb245 => ?_
  refine zG_run t_Law [(.aload_n 3, 0, 0)] (1547, [some (zr (some (200, zSO))), some (zr (some (0, 0))), some (zr (some (11, 333))), some (zr (some (106, 380))), some (zi v4), none, none], [zr (some (106, 380)), zi (X.2 (v4 + 1).toNatClampNeg), zr (some (0, 0))], h) (by decide +kernel) rfl ?_
  refine zG_mono (bc' := 0 + 1) (bs' := 0 + 6) (by decide) (by decide) ?_
  refine zG_callSX (idx := 184) (as := [zr (some (0, 0)), zi (X.2 (v4 + 1).toNatClampNeg), zr (some (106, 380))]) (rest := []) (n := 3) (fun a ha => c_L_tells hl ha) (by decide +kernel) ⟨ok_L_tells, by decide, by decide +kernel⟩ rfl wl_164 wl_165 rfl rfl (Nat.le_of_ble_eq_true rfl) fun x246 => ?_
  refine zG_run t_Law [(.istore 5, 0, 0), (.aload_n 2, 0, 0), (.aload_n 0, 0, 0), (.iload 4, 0, 0), (.iconst 1, 0, 0), (.iadd, 0, 0)] (1558, [some (zr (some (200, zSO))), some (zr (some (0, 0))), some (zr (some (11, 333))), some (zr (some (106, 380))), some (zi v4), some (zi x246.1), none], [zi (v4 + 1), zr (some (200, zSO)), zr (some (11, 333))], x246.2) (by decide +kernel) rfl ?_
  refine zG_scr (by decide +kernel) fun hb247 => ?_
  refine zG_callV (idx := 186) (R := (fun a => (some (zi a.1), a.2))) (as := [zi (X.2 (v4 + 1).toNatClampNeg)]) (rest := []) (n := 1) (fun a ha => c_Mod_tells hl ha) (by decide +kernel) ⟨ok_Mod_tells, by decide, by decide +kernel⟩ rfl wl_161 wl_162 wl_163 (by decide) rfl rfl rfl (Nat.le_of_ble_eq_true rfl) fun x248 => ?_
  refine zG_run t_Law [(.istore 6, 0, 0), (.aload_n 2, 0, 0)] (1565, [some (zr (some (200, zSO))), some (zr (some (0, 0))), some (zr (some (11, 333))), some (zr (some (106, 380))), some (zi v4), some (zi x246.1), some (zi x248.1)], [zr (some (11, 333))], x248.2) (by decide +kernel) rfl ?_
  refine zG_callV (idx := 85) (R := (fun a => (some (zi a), x248.2))) (as := []) (rest := []) (n := 0) (fun a ha => c_Mod_thrown hl ha) (by decide +kernel) ⟨ok_Mod_thrown, by decide, by decide +kernel⟩ rfl wl_9 wl_10 wl_11 (by decide) rfl rfl rfl (Nat.le_of_ble_eq_true rfl) fun x249 => ?_
  refine zG_run t_Law [(.iload 5, 0, 0)] (1570, [some (zr (some (200, zSO))), some (zr (some (0, 0))), some (zr (some (11, 333))), some (zr (some (106, 380))), some (zi v4), some (zi x246.1), some (zi x248.1)], [zi x246.1, zi x249], x248.2) (by decide +kernel) rfl ?_
  refine zG_icmp (op := .eq) (off := 5) (tgt := 1575) (by decide +kernel) rfl Iff.rfl (fun c252 => ?_) (fun c252 => ?_)
  · refine zG_run t_Law [(.iload 5, 0, 0)] (1577, [some (zr (some (200, zSO))), some (zr (some (0, 0))), some (zr (some (11, 333))), some (zr (some (106, 380))), some (zi v4), some (zi x246.1), some (zi x248.1)], [zi x246.1], x248.2) (by decide +kernel) rfl ?_
    refine zG_if (op := .ne) (off := 15) (tgt := 1592) (by decide +kernel) rfl Iff.rfl (fun c251 => ?_) (fun c251 => ?_)
    · refine zG_run t_Law [(.goto 107, 0, 0), (.iinc 4 6, 0, 0), (.goto (-1679), 0, 0)] (23, [some (zr (some (200, zSO))), some (zr (some (0, 0))), some (zr (some (11, 333))), some (zr (some (106, 380))), some (zi (v4 + 6)), some (zi x246.1), some (zi x248.1)], [], x248.2) (by decide +kernel) rfl ?_
      exact zG_end (L' := [some (zr (some (200, zSO))), some (zr (some (0, 0))), some (zr (some (11, 333))), some (zr (some (106, 380))), some (zi (v4 + 6)), none, none]) rfl (And.intro rfl (And.intro rfl (And.intro rfl (And.intro rfl (And.intro rfl trivial)))))
    · refine zG_run t_Law [(.aload_n 3, 0, 0), (.iconst 0, 0, 0)] (1582, [some (zr (some (200, zSO))), some (zr (some (0, 0))), some (zr (some (11, 333))), some (zr (some (106, 380))), some (zi v4), some (zi x246.1), some (zi x248.1)], [zi 0, zr (some (106, 380))], x248.2) (by decide +kernel) rfl ?_
      refine zG_aldc (v := zl (x248.2.2.1 380 0)) rfl (by decide +kernel) (by decide +kernel) rfl ?_
      refine zG_run t_Law [(.iload 6, 0, 0), (.i2l, 0, 0), (.lcmp, 0, 0)] (1587, [some (zr (some (200, zSO))), some (zr (some (0, 0))), some (zr (some (11, 333))), some (zr (some (106, 380))), some (zi v4), some (zi x246.1), some (zi x248.1)], [zi (lg_cmp (x248.2.2.1 380 0) x248.1.toInt64)], x248.2) (by decide +kernel) rfl ?_
      refine zG_if (op := .eq) (off := 5) (tgt := 1592) (by decide +kernel) rfl zcmp0 (fun c250 => ?_) (fun c250 => ?_)
      · refine zG_run t_Law [(.goto 107, 0, 0), (.iinc 4 6, 0, 0), (.goto (-1679), 0, 0)] (23, [some (zr (some (200, zSO))), some (zr (some (0, 0))), some (zr (some (11, 333))), some (zr (some (106, 380))), some (zi (v4 + 6)), some (zi x246.1), some (zi x248.1)], [], x248.2) (by decide +kernel) rfl ?_
        exact zG_end (L' := [some (zr (some (200, zSO))), some (zr (some (0, 0))), some (zr (some (11, 333))), some (zr (some (106, 380))), some (zi (v4 + 6)), none, none]) rfl (And.intro rfl (And.intro rfl (And.intro rfl (And.intro rfl (And.intro rfl trivial)))))
      · exact zG_none
  · exact zG_none
set_option maxRecDepth 20000 in
set_option maxHeartbeats 4000000 in
theorem k_law_a30 {l : Launch} {X : zX} (hl : l.stackTraces = false) {h : zH} {v4 : Int32} : zGl l m_law X 3 18 ((
                                                                    zg (zb (v4 + 1) X.1) <|
                                                                      zg (zb (v4 + 2) X.1) <|
                                                                      zg (zb (v4 + 3) X.1) <|
                                                                      (f_L_years h (X.2 (v4 + 1).toNatClampNeg) (X.2 (v4 + 2).toNatClampNeg) (X.2 (v4 + 3).toNatClampNeg)).bind fun x257 =>
                                                                      zg (zb (v4 + 1) X.1) <|
                                                                      zg (zb (v4 + 2) X.1) <|
                                                                      zg (zb (v4 + 3) X.1) <|
                                                                      (f_Mod_years x257.2 (X.2 (v4 + 1).toNatClampNeg) (X.2 (v4 + 2).toNatClampNeg) (X.2 (v4 + 3).toNatClampNeg)).bind fun x261 =>
                                                                      (f_Mod_thrown x261.2).bind fun x262 =>
                                                                      if x262 = x257.1 then (
                                                                      if ¬ x257.1 = 0 then (
                                                                        some (.inl ((v4 + 6), x261.2))) else (
                                                                        if (x261.2.2.1 380 0) = x261.1.toInt64 then (
                                                                          some (.inl ((v4 + 6), x261.2))) else (
                                                                          none))) else (
                                                                      none)) : Option ((Int32 × zH) ⊕ zH)) (1595, [some (zr (some (200, zSO))), some (zr (some (0, 0))), some (zr (some (11, 333))), some (zr (some (106, 380))), some (zi v4), none, none], [], h) (Sum.elim (fun s : Int32 × zH => .inl (23, [some (zr (some (200, zSO))), some (zr (some (0, 0))), some (zr (some (11, 333))), some (zr (some (106, 380))), some (zi s.1), none, none], [], s.2)) (fun y : zH => .inl (1705, [none, none, none, none, none, none, none], [], y))) := by
  refine zG_run t_Law [(.aload_n 1, 0, 0), (.aload_n 0, 0, 0), (.iload 4, 0, 0), (.iconst 1, 0, 0), (.iadd, 0, 0)] (1601, [some (zr (some (200, zSO))), some (zr (some (0, 0))), some (zr (some (11, 333))), some (zr (some (106, 380))), some (zi v4), none, none], [zi (v4 + 1), zr (some (200, zSO)), zr (some (0, 0))], h) (by decide +kernel) rfl ?_
  refine zG_scr (by decide +kernel) fun hb254 => ?_
  refine zG_run t_Law [(.aload_n 0, 0, 0), (.iload 4, 0, 0), (.iconst 2, 0, 0), (.iadd, 0, 0)] (1607, [some (zr (some (200, zSO))), some (zr (some (0, 0))), some (zr (some (11, 333))), some (zr (some (106, 380))), some (zi v4), none, none], [zi (v4 + 2), zr (some (200, zSO)), zi (X.2 (v4 + 1).toNatClampNeg), zr (some (0, 0))], h) (by decide +kernel) rfl ?_
  refine zG_scr (by decide +kernel) fun hb255 => ?_
  refine zG_run t_Law [(.aload_n 0, 0, 0), (.iload 4, 0, 0), (.iconst 3, 0, 0), (.iadd, 0, 0)] (1613, [some (zr (some (200, zSO))), some (zr (some (0, 0))), some (zr (some (11, 333))), some (zr (some (106, 380))), some (zi v4), none, none], [zi (v4 + 3), zr (some (200, zSO)), zi (X.2 (v4 + 2).toNatClampNeg), zi (X.2 (v4 + 1).toNatClampNeg), zr (some (0, 0))], h) (by decide +kernel) rfl ?_
  refine zG_scr (by decide +kernel) fun hb256 => ?_
  refine zG_run t_Law [(.aload_n 3, 0, 0)] (1615, [some (zr (some (200, zSO))), some (zr (some (0, 0))), some (zr (some (11, 333))), some (zr (some (106, 380))), some (zi v4), none, none], [zr (some (106, 380)), zi (X.2 (v4 + 3).toNatClampNeg), zi (X.2 (v4 + 2).toNatClampNeg), zi (X.2 (v4 + 1).toNatClampNeg), zr (some (0, 0))], h) (by decide +kernel) rfl ?_
  refine zG_mono (bc' := 0 + 1) (bs' := 0 + 6) (by decide) (by decide) ?_
  refine zG_callSX (idx := 187) (as := [zr (some (0, 0)), zi (X.2 (v4 + 1).toNatClampNeg), zi (X.2 (v4 + 2).toNatClampNeg), zi (X.2 (v4 + 3).toNatClampNeg), zr (some (106, 380))]) (rest := []) (n := 5) (fun a ha => c_L_years hl ha) (by decide +kernel) ⟨ok_L_years, by decide, by decide +kernel⟩ rfl wl_169 wl_170 rfl rfl (Nat.le_of_ble_eq_true rfl) fun x257 => ?_
  refine zG_run t_Law [(.istore 5, 0, 0), (.aload_n 2, 0, 0), (.aload_n 0, 0, 0), (.iload 4, 0, 0), (.iconst 1, 0, 0), (.iadd, 0, 0)] (1626, [some (zr (some (200, zSO))), some (zr (some (0, 0))), some (zr (some (11, 333))), some (zr (some (106, 380))), some (zi v4), some (zi x257.1), none], [zi (v4 + 1), zr (some (200, zSO)), zr (some (11, 333))], x257.2) (by decide +kernel) rfl ?_
  refine zG_scr (by decide +kernel) fun hb258 => ?_
  refine zG_run t_Law [(.aload_n 0, 0, 0), (.iload 4, 0, 0), (.iconst 2, 0, 0), (.iadd, 0, 0)] (1632, [some (zr (some (200, zSO))), some (zr (some (0, 0))), some (zr (some (11, 333))), some (zr (some (106, 380))), some (zi v4), some (zi x257.1), none], [zi (v4 + 2), zr (some (200, zSO)), zi (X.2 (v4 + 1).toNatClampNeg), zr (some (11, 333))], x257.2) (by decide +kernel) rfl ?_
  refine zG_scr (by decide +kernel) fun hb259 => ?_
  refine zG_run t_Law [(.aload_n 0, 0, 0), (.iload 4, 0, 0), (.iconst 3, 0, 0), (.iadd, 0, 0)] (1638, [some (zr (some (200, zSO))), some (zr (some (0, 0))), some (zr (some (11, 333))), some (zr (some (106, 380))), some (zi v4), some (zi x257.1), none], [zi (v4 + 3), zr (some (200, zSO)), zi (X.2 (v4 + 2).toNatClampNeg), zi (X.2 (v4 + 1).toNatClampNeg), zr (some (11, 333))], x257.2) (by decide +kernel) rfl ?_
  refine zG_scr (by decide +kernel) fun hb260 => ?_
  refine zG_callV (idx := 189) (R := (fun a => (some (zi a.1), a.2))) (as := [zi (X.2 (v4 + 1).toNatClampNeg), zi (X.2 (v4 + 2).toNatClampNeg), zi (X.2 (v4 + 3).toNatClampNeg)]) (rest := []) (n := 3) (fun a ha => c_Mod_years hl ha) (by decide +kernel) ⟨ok_Mod_years, by decide, by decide +kernel⟩ rfl wl_166 wl_167 wl_168 (by decide) rfl rfl rfl (Nat.le_of_ble_eq_true rfl) fun x261 => ?_
  refine zG_run t_Law [(.istore 6, 0, 0), (.aload_n 2, 0, 0)] (1645, [some (zr (some (200, zSO))), some (zr (some (0, 0))), some (zr (some (11, 333))), some (zr (some (106, 380))), some (zi v4), some (zi x257.1), some (zi x261.1)], [zr (some (11, 333))], x261.2) (by decide +kernel) rfl ?_
  refine zG_callV (idx := 85) (R := (fun a => (some (zi a), x261.2))) (as := []) (rest := []) (n := 0) (fun a ha => c_Mod_thrown hl ha) (by decide +kernel) ⟨ok_Mod_thrown, by decide, by decide +kernel⟩ rfl wl_9 wl_10 wl_11 (by decide) rfl rfl rfl (Nat.le_of_ble_eq_true rfl) fun x262 => ?_
  refine zG_run t_Law [(.iload 5, 0, 0)] (1650, [some (zr (some (200, zSO))), some (zr (some (0, 0))), some (zr (some (11, 333))), some (zr (some (106, 380))), some (zi v4), some (zi x257.1), some (zi x261.1)], [zi x257.1, zi x262], x261.2) (by decide +kernel) rfl ?_
  refine zG_icmp (op := .eq) (off := 5) (tgt := 1655) (by decide +kernel) rfl Iff.rfl (fun c265 => ?_) (fun c265 => ?_)
  · refine zG_run t_Law [(.iload 5, 0, 0)] (1657, [some (zr (some (200, zSO))), some (zr (some (0, 0))), some (zr (some (11, 333))), some (zr (some (106, 380))), some (zi v4), some (zi x257.1), some (zi x261.1)], [zi x257.1], x261.2) (by decide +kernel) rfl ?_
    refine zG_if (op := .ne) (off := 15) (tgt := 1672) (by decide +kernel) rfl Iff.rfl (fun c264 => ?_) (fun c264 => ?_)
    · refine zG_run t_Law [(.goto 27, 0, 0), (.iinc 4 6, 0, 0), (.goto (-1679), 0, 0)] (23, [some (zr (some (200, zSO))), some (zr (some (0, 0))), some (zr (some (11, 333))), some (zr (some (106, 380))), some (zi (v4 + 6)), some (zi x257.1), some (zi x261.1)], [], x261.2) (by decide +kernel) rfl ?_
      exact zG_end (L' := [some (zr (some (200, zSO))), some (zr (some (0, 0))), some (zr (some (11, 333))), some (zr (some (106, 380))), some (zi (v4 + 6)), none, none]) rfl (And.intro rfl (And.intro rfl (And.intro rfl (And.intro rfl (And.intro rfl trivial)))))
    · refine zG_run t_Law [(.aload_n 3, 0, 0), (.iconst 0, 0, 0)] (1662, [some (zr (some (200, zSO))), some (zr (some (0, 0))), some (zr (some (11, 333))), some (zr (some (106, 380))), some (zi v4), some (zi x257.1), some (zi x261.1)], [zi 0, zr (some (106, 380))], x261.2) (by decide +kernel) rfl ?_
      refine zG_aldc (v := zl (x261.2.2.1 380 0)) rfl (by decide +kernel) (by decide +kernel) rfl ?_
      refine zG_run t_Law [(.iload 6, 0, 0), (.i2l, 0, 0), (.lcmp, 0, 0)] (1667, [some (zr (some (200, zSO))), some (zr (some (0, 0))), some (zr (some (11, 333))), some (zr (some (106, 380))), some (zi v4), some (zi x257.1), some (zi x261.1)], [zi (lg_cmp (x261.2.2.1 380 0) x261.1.toInt64)], x261.2) (by decide +kernel) rfl ?_
      refine zG_if (op := .eq) (off := 5) (tgt := 1672) (by decide +kernel) rfl zcmp0 (fun c263 => ?_) (fun c263 => ?_)
      · refine zG_run t_Law [(.goto 27, 0, 0), (.iinc 4 6, 0, 0), (.goto (-1679), 0, 0)] (23, [some (zr (some (200, zSO))), some (zr (some (0, 0))), some (zr (some (11, 333))), some (zr (some (106, 380))), some (zi (v4 + 6)), some (zi x257.1), some (zi x261.1)], [], x261.2) (by decide +kernel) rfl ?_
        exact zG_end (L' := [some (zr (some (200, zSO))), some (zr (some (0, 0))), some (zr (some (11, 333))), some (zr (some (106, 380))), some (zi (v4 + 6)), none, none]) rfl (And.intro rfl (And.intro rfl (And.intro rfl (And.intro rfl (And.intro rfl trivial)))))
      · exact zG_none
  · exact zG_none
set_option maxRecDepth 20000 in
set_option maxHeartbeats 4000000 in
theorem k_law_a31 {l : Launch} {X : zX} (hl : l.stackTraces = false) {h : zH} {v4 : Int32} : zGl l m_law X 3 18 ((
                                                                      (f_Main_image h).bind fun x267 =>
                                                                        (f_Mod_image x267).bind fun x268 =>
                                                                        some (.inl ((v4 + 6), x268))) : Option ((Int32 × zH) ⊕ zH)) (1675, [some (zr (some (200, zSO))), some (zr (some (0, 0))), some (zr (some (11, 333))), some (zr (some (106, 380))), some (zi v4), none, none], [], h) (Sum.elim (fun s : Int32 × zH => .inl (23, [some (zr (some (200, zSO))), some (zr (some (0, 0))), some (zr (some (11, 333))), some (zr (some (106, 380))), some (zi s.1), none, none], [], s.2)) (fun y : zH => .inl (1705, [none, none, none, none, none, none, none], [], y))) := by
  refine zG_run t_Law [(.aload_n 1, 0, 0)] (1676, [some (zr (some (200, zSO))), some (zr (some (0, 0))), some (zr (some (11, 333))), some (zr (some (106, 380))), some (zi v4), none, none], [zr (some (0, 0))], h) (by decide +kernel) rfl ?_
  refine zG_callV (idx := 190) (R := (fun a => (none, a))) (as := []) (rest := []) (n := 0) (fun a ha => c_Main_image hl ha) (by decide +kernel) ⟨ok_Main_image, by decide, by decide +kernel⟩ rfl wl_171 wl_172 wl_173 (by decide) rfl rfl rfl (Nat.le_of_ble_eq_true rfl) fun x267 => ?_
  refine zG_run t_Law [(.aload_n 2, 0, 0)] (1680, [some (zr (some (200, zSO))), some (zr (some (0, 0))), some (zr (some (11, 333))), some (zr (some (106, 380))), some (zi v4), none, none], [zr (some (11, 333))], x267) (by decide +kernel) rfl ?_
  refine zG_callV (idx := 193) (R := (fun a => (none, a))) (as := []) (rest := []) (n := 0) (fun a ha => c_Mod_image hl ha) (by decide +kernel) ⟨ok_Mod_image, by decide, by decide +kernel⟩ rfl wl_174 wl_175 wl_176 (by decide) rfl rfl rfl (Nat.le_of_ble_eq_true rfl) fun x268 => ?_
  refine zG_run t_Law [(.goto 16, 0, 0), (.iinc 4 6, 0, 0), (.goto (-1679), 0, 0)] (23, [some (zr (some (200, zSO))), some (zr (some (0, 0))), some (zr (some (11, 333))), some (zr (some (106, 380))), some (zi (v4 + 6)), none, none], [], x268) (by decide +kernel) rfl ?_
  exact zG_end (L' := [some (zr (some (200, zSO))), some (zr (some (0, 0))), some (zr (some (11, 333))), some (zr (some (106, 380))), some (zi (v4 + 6)), none, none]) rfl (And.intro rfl (And.intro rfl (And.intro rfl (And.intro rfl (And.intro rfl trivial)))))
set_option maxRecDepth 20000 in
set_option maxHeartbeats 4000000 in
theorem k_law_a32 {l : Launch} {X : zX} (hl : l.stackTraces = false) {h : zH} {v4 : Int32} : zGl l m_law X 3 18 ((
                                                                        (f_Main_restore h).bind fun x270 =>
                                                                          (f_Mod_restore x270.2).bind fun x271 =>
                                                                          if x270.1 = x271.1 then (
                                                                          some (.inl ((v4 + 6), x271.2))) else (
                                                                          none)) : Option ((Int32 × zH) ⊕ zH)) (1686, [some (zr (some (200, zSO))), some (zr (some (0, 0))), some (zr (some (11, 333))), some (zr (some (106, 380))), some (zi v4), none, none], [], h) (Sum.elim (fun s : Int32 × zH => .inl (23, [some (zr (some (200, zSO))), some (zr (some (0, 0))), some (zr (some (11, 333))), some (zr (some (106, 380))), some (zi s.1), none, none], [], s.2)) (fun y : zH => .inl (1705, [none, none, none, none, none, none, none], [], y))) := by
  refine zG_run t_Law [(.aload_n 1, 0, 0)] (1687, [some (zr (some (200, zSO))), some (zr (some (0, 0))), some (zr (some (11, 333))), some (zr (some (106, 380))), some (zi v4), none, none], [zr (some (0, 0))], h) (by decide +kernel) rfl ?_
  refine zG_callV (idx := 194) (R := (fun a => (some (zi a.1), a.2))) (as := []) (rest := []) (n := 0) (fun a ha => c_Main_restore hl ha) (by decide +kernel) ⟨ok_Main_restore, by decide, by decide +kernel⟩ rfl wl_177 wl_178 wl_179 (by decide) rfl rfl rfl (Nat.le_of_ble_eq_true rfl) fun x270 => ?_
  refine zG_run t_Law [(.aload_n 2, 0, 0)] (1691, [some (zr (some (200, zSO))), some (zr (some (0, 0))), some (zr (some (11, 333))), some (zr (some (106, 380))), some (zi v4), none, none], [zr (some (11, 333)), zi x270.1], x270.2) (by decide +kernel) rfl ?_
  refine zG_callV (idx := 198) (R := (fun a => (some (zi a.1), a.2))) (as := []) (rest := [zi x270.1]) (n := 0) (fun a ha => c_Mod_restore hl ha) (by decide +kernel) ⟨ok_Mod_restore, by decide, by decide +kernel⟩ rfl wl_180 wl_181 wl_182 (by decide) rfl rfl rfl (Nat.le_of_ble_eq_true rfl) fun x271 => ?_
  refine zG_icmp (op := .eq) (off := 5) (tgt := 1699) (by decide +kernel) rfl Iff.rfl (fun c272 => ?_) (fun c272 => ?_)
  · refine zG_run t_Law [(.iinc 4 6, 0, 0), (.goto (-1679), 0, 0)] (23, [some (zr (some (200, zSO))), some (zr (some (0, 0))), some (zr (some (11, 333))), some (zr (some (106, 380))), some (zi (v4 + 6)), none, none], [], x271.2) (by decide +kernel) rfl ?_
    exact zG_end (L' := [some (zr (some (200, zSO))), some (zr (some (0, 0))), some (zr (some (11, 333))), some (zr (some (106, 380))), some (zi (v4 + 6)), none, none]) rfl (And.intro rfl (And.intro rfl (And.intro rfl (And.intro rfl (And.intro rfl trivial)))))
  · exact zG_none
set_option maxRecDepth 20000 in
set_option maxHeartbeats 4000000 in
theorem k_law {l : Launch} {X : zX} (hl : l.stackTraces = false) {h : zH} {v4 : Int32} : zGl l m_law X 3 18 (f_law X h v4) (23, [some (zr (some (200, zSO))), some (zr (some (0, 0))), some (zr (some (11, 333))), some (zr (some (106, 380))), some (zi v4), none, none], [], h) (Sum.elim (fun s : Int32 × zH => .inl (23, [some (zr (some (200, zSO))), some (zr (some (0, 0))), some (zr (some (11, 333))), some (zr (some (106, 380))), some (zi s.1), none, none], [], s.2)) (fun y : zH => .inl (1705, [none, none, none, none, none, none, none], [], y))) := by
  unfold f_law
  refine zG_run t_Law [(.iload 4, 0, 0), (.aload_n 0, 0, 0)] (26, [some (zr (some (200, zSO))), some (zr (some (0, 0))), some (zr (some (11, 333))), some (zr (some (106, 380))), some (zi v4), none, none], [zr (some (200, zSO)), zi v4], h) (by decide +kernel) rfl ?_
  refine zG_st (zS_scl (by decide +kernel)) zle.refl' ?_
  refine zG_run t_Law [(.bipush 6, 0, 0), (.isub, 0, 0)] (30, [some (zr (some (200, zSO))), some (zr (some (0, 0))), some (zr (some (11, 333))), some (zr (some (106, 380))), some (zi v4), none, none], [zi ((Int32.ofNat X.1) - 6), zi v4], h) (by decide +kernel) rfl ?_
  refine zG_icmp (op := .gt) (off := 1675) (tgt := 1705) (by decide +kernel) rfl Iff.rfl (fun c274 => ?_) (fun c274 => ?_)
  · exact zG_end (L' := [none, none, none, none, none, none, none]) rfl (trivial)
  · refine zG_run t_Law [(.aload_n 0, 0, 0), (.iload 4, 0, 0)] (36, [some (zr (some (200, zSO))), some (zr (some (0, 0))), some (zr (some (11, 333))), some (zr (some (106, 380))), some (zi v4), none, none], [zi v4, zr (some (200, zSO))], h) (by decide +kernel) rfl ?_
    refine zG_scr (by decide +kernel) fun hb1 => ?_
    refine zG_run t_Law [(.bipush 63, 0, 0), (.iand, 0, 0)] (40, [some (zr (some (200, zSO))), some (zr (some (0, 0))), some (zr (some (11, 333))), some (zr (some (106, 380))), some (zi v4), none, none], [zi ((X.2 v4.toNatClampNeg) &&& 63)], h) (by decide +kernel) rfl ?_
    refine zG_case (fun c15 => ?_) (fun c15 => ?_)
    · refine zG_tin (k := 0) (off := 148) (tgt := 188) (dflt := 1659) (lo := 0) (hi := 32) (offs := #[148, 221, 277, 290, 346, 414, 482, 550, 618, 686, 754, 834, 902, 970, 1026, 1063, 1088, 1101, 1126, 1139, 1195, 1220, 1245, 1258, 1307, 1363, 1419, 1430, 1486, 1499, 1555, 1635, 1646]) (len := 148) c15 (by decide +kernel) (by decide +kernel) ?_
      exact k_law_a0 hl
    · refine zG_case (fun c24 => ?_) (fun c24 => ?_)
      · refine zG_tin (k := 1) (off := 221) (tgt := 261) (dflt := 1659) (lo := 0) (hi := 32) (offs := #[148, 221, 277, 290, 346, 414, 482, 550, 618, 686, 754, 834, 902, 970, 1026, 1063, 1088, 1101, 1126, 1139, 1195, 1220, 1245, 1258, 1307, 1363, 1419, 1430, 1486, 1499, 1555, 1635, 1646]) (len := 148) c24 (by decide +kernel) (by decide +kernel) ?_
        exact k_law_a1 hl
      · refine zG_case (fun c28 => ?_) (fun c28 => ?_)
        · refine zG_tin (k := 2) (off := 277) (tgt := 317) (dflt := 1659) (lo := 0) (hi := 32) (offs := #[148, 221, 277, 290, 346, 414, 482, 550, 618, 686, 754, 834, 902, 970, 1026, 1063, 1088, 1101, 1126, 1139, 1195, 1220, 1245, 1258, 1307, 1363, 1419, 1430, 1486, 1499, 1555, 1635, 1646]) (len := 148) c28 (by decide +kernel) (by decide +kernel) ?_
          exact k_law_a2 hl
        · refine zG_case (fun c37 => ?_) (fun c37 => ?_)
          · refine zG_tin (k := 3) (off := 290) (tgt := 330) (dflt := 1659) (lo := 0) (hi := 32) (offs := #[148, 221, 277, 290, 346, 414, 482, 550, 618, 686, 754, 834, 902, 970, 1026, 1063, 1088, 1101, 1126, 1139, 1195, 1220, 1245, 1258, 1307, 1363, 1419, 1430, 1486, 1499, 1555, 1635, 1646]) (len := 148) c37 (by decide +kernel) (by decide +kernel) ?_
            exact k_law_a3 hl
          · refine zG_case (fun c48 => ?_) (fun c48 => ?_)
            · refine zG_tin (k := 4) (off := 346) (tgt := 386) (dflt := 1659) (lo := 0) (hi := 32) (offs := #[148, 221, 277, 290, 346, 414, 482, 550, 618, 686, 754, 834, 902, 970, 1026, 1063, 1088, 1101, 1126, 1139, 1195, 1220, 1245, 1258, 1307, 1363, 1419, 1430, 1486, 1499, 1555, 1635, 1646]) (len := 148) c48 (by decide +kernel) (by decide +kernel) ?_
              exact k_law_a4 hl
            · refine zG_case (fun c59 => ?_) (fun c59 => ?_)
              · refine zG_tin (k := 5) (off := 414) (tgt := 454) (dflt := 1659) (lo := 0) (hi := 32) (offs := #[148, 221, 277, 290, 346, 414, 482, 550, 618, 686, 754, 834, 902, 970, 1026, 1063, 1088, 1101, 1126, 1139, 1195, 1220, 1245, 1258, 1307, 1363, 1419, 1430, 1486, 1499, 1555, 1635, 1646]) (len := 148) c59 (by decide +kernel) (by decide +kernel) ?_
                exact k_law_a5 hl
              · refine zG_case (fun c70 => ?_) (fun c70 => ?_)
                · refine zG_tin (k := 6) (off := 482) (tgt := 522) (dflt := 1659) (lo := 0) (hi := 32) (offs := #[148, 221, 277, 290, 346, 414, 482, 550, 618, 686, 754, 834, 902, 970, 1026, 1063, 1088, 1101, 1126, 1139, 1195, 1220, 1245, 1258, 1307, 1363, 1419, 1430, 1486, 1499, 1555, 1635, 1646]) (len := 148) c70 (by decide +kernel) (by decide +kernel) ?_
                  exact k_law_a6 hl
                · refine zG_case (fun c81 => ?_) (fun c81 => ?_)
                  · refine zG_tin (k := 7) (off := 550) (tgt := 590) (dflt := 1659) (lo := 0) (hi := 32) (offs := #[148, 221, 277, 290, 346, 414, 482, 550, 618, 686, 754, 834, 902, 970, 1026, 1063, 1088, 1101, 1126, 1139, 1195, 1220, 1245, 1258, 1307, 1363, 1419, 1430, 1486, 1499, 1555, 1635, 1646]) (len := 148) c81 (by decide +kernel) (by decide +kernel) ?_
                    exact k_law_a7 hl
                  · refine zG_case (fun c92 => ?_) (fun c92 => ?_)
                    · refine zG_tin (k := 8) (off := 618) (tgt := 658) (dflt := 1659) (lo := 0) (hi := 32) (offs := #[148, 221, 277, 290, 346, 414, 482, 550, 618, 686, 754, 834, 902, 970, 1026, 1063, 1088, 1101, 1126, 1139, 1195, 1220, 1245, 1258, 1307, 1363, 1419, 1430, 1486, 1499, 1555, 1635, 1646]) (len := 148) c92 (by decide +kernel) (by decide +kernel) ?_
                      exact k_law_a8 hl
                    · refine zG_case (fun c103 => ?_) (fun c103 => ?_)
                      · refine zG_tin (k := 9) (off := 686) (tgt := 726) (dflt := 1659) (lo := 0) (hi := 32) (offs := #[148, 221, 277, 290, 346, 414, 482, 550, 618, 686, 754, 834, 902, 970, 1026, 1063, 1088, 1101, 1126, 1139, 1195, 1220, 1245, 1258, 1307, 1363, 1419, 1430, 1486, 1499, 1555, 1635, 1646]) (len := 148) c103 (by decide +kernel) (by decide +kernel) ?_
                        exact k_law_a9 hl
                      · refine zG_case (fun c116 => ?_) (fun c116 => ?_)
                        · refine zG_tin (k := 10) (off := 754) (tgt := 794) (dflt := 1659) (lo := 0) (hi := 32) (offs := #[148, 221, 277, 290, 346, 414, 482, 550, 618, 686, 754, 834, 902, 970, 1026, 1063, 1088, 1101, 1126, 1139, 1195, 1220, 1245, 1258, 1307, 1363, 1419, 1430, 1486, 1499, 1555, 1635, 1646]) (len := 148) c116 (by decide +kernel) (by decide +kernel) ?_
                          exact k_law_a10 hl
                        · refine zG_case (fun c127 => ?_) (fun c127 => ?_)
                          · refine zG_tin (k := 11) (off := 834) (tgt := 874) (dflt := 1659) (lo := 0) (hi := 32) (offs := #[148, 221, 277, 290, 346, 414, 482, 550, 618, 686, 754, 834, 902, 970, 1026, 1063, 1088, 1101, 1126, 1139, 1195, 1220, 1245, 1258, 1307, 1363, 1419, 1430, 1486, 1499, 1555, 1635, 1646]) (len := 148) c127 (by decide +kernel) (by decide +kernel) ?_
                            exact k_law_a11 hl
                          · refine zG_case (fun c138 => ?_) (fun c138 => ?_)
                            · refine zG_tin (k := 12) (off := 902) (tgt := 942) (dflt := 1659) (lo := 0) (hi := 32) (offs := #[148, 221, 277, 290, 346, 414, 482, 550, 618, 686, 754, 834, 902, 970, 1026, 1063, 1088, 1101, 1126, 1139, 1195, 1220, 1245, 1258, 1307, 1363, 1419, 1430, 1486, 1499, 1555, 1635, 1646]) (len := 148) c138 (by decide +kernel) (by decide +kernel) ?_
                              exact k_law_a12 hl
                            · refine zG_case (fun c147 => ?_) (fun c147 => ?_)
                              · refine zG_tin (k := 13) (off := 970) (tgt := 1010) (dflt := 1659) (lo := 0) (hi := 32) (offs := #[148, 221, 277, 290, 346, 414, 482, 550, 618, 686, 754, 834, 902, 970, 1026, 1063, 1088, 1101, 1126, 1139, 1195, 1220, 1245, 1258, 1307, 1363, 1419, 1430, 1486, 1499, 1555, 1635, 1646]) (len := 148) c147 (by decide +kernel) (by decide +kernel) ?_
                                exact k_law_a13 hl
                              · refine zG_case (fun c155 => ?_) (fun c155 => ?_)
                                · refine zG_tin (k := 14) (off := 1026) (tgt := 1066) (dflt := 1659) (lo := 0) (hi := 32) (offs := #[148, 221, 277, 290, 346, 414, 482, 550, 618, 686, 754, 834, 902, 970, 1026, 1063, 1088, 1101, 1126, 1139, 1195, 1220, 1245, 1258, 1307, 1363, 1419, 1430, 1486, 1499, 1555, 1635, 1646]) (len := 148) c155 (by decide +kernel) (by decide +kernel) ?_
                                  exact k_law_a14 hl
                                · refine zG_case (fun c161 => ?_) (fun c161 => ?_)
                                  · refine zG_tin (k := 15) (off := 1063) (tgt := 1103) (dflt := 1659) (lo := 0) (hi := 32) (offs := #[148, 221, 277, 290, 346, 414, 482, 550, 618, 686, 754, 834, 902, 970, 1026, 1063, 1088, 1101, 1126, 1139, 1195, 1220, 1245, 1258, 1307, 1363, 1419, 1430, 1486, 1499, 1555, 1635, 1646]) (len := 148) c161 (by decide +kernel) (by decide +kernel) ?_
                                    exact k_law_a15 hl
                                  · refine zG_case (fun c165 => ?_) (fun c165 => ?_)
                                    · refine zG_tin (k := 16) (off := 1088) (tgt := 1128) (dflt := 1659) (lo := 0) (hi := 32) (offs := #[148, 221, 277, 290, 346, 414, 482, 550, 618, 686, 754, 834, 902, 970, 1026, 1063, 1088, 1101, 1126, 1139, 1195, 1220, 1245, 1258, 1307, 1363, 1419, 1430, 1486, 1499, 1555, 1635, 1646]) (len := 148) c165 (by decide +kernel) (by decide +kernel) ?_
                                      exact k_law_a16 hl
                                    · refine zG_case (fun c171 => ?_) (fun c171 => ?_)
                                      · refine zG_tin (k := 17) (off := 1101) (tgt := 1141) (dflt := 1659) (lo := 0) (hi := 32) (offs := #[148, 221, 277, 290, 346, 414, 482, 550, 618, 686, 754, 834, 902, 970, 1026, 1063, 1088, 1101, 1126, 1139, 1195, 1220, 1245, 1258, 1307, 1363, 1419, 1430, 1486, 1499, 1555, 1635, 1646]) (len := 148) c171 (by decide +kernel) (by decide +kernel) ?_
                                        exact k_law_a17 hl
                                      · refine zG_case (fun c175 => ?_) (fun c175 => ?_)
                                        · refine zG_tin (k := 18) (off := 1126) (tgt := 1166) (dflt := 1659) (lo := 0) (hi := 32) (offs := #[148, 221, 277, 290, 346, 414, 482, 550, 618, 686, 754, 834, 902, 970, 1026, 1063, 1088, 1101, 1126, 1139, 1195, 1220, 1245, 1258, 1307, 1363, 1419, 1430, 1486, 1499, 1555, 1635, 1646]) (len := 148) c175 (by decide +kernel) (by decide +kernel) ?_
                                          exact k_law_a18 hl
                                        · refine zG_case (fun c184 => ?_) (fun c184 => ?_)
                                          · refine zG_tin (k := 19) (off := 1139) (tgt := 1179) (dflt := 1659) (lo := 0) (hi := 32) (offs := #[148, 221, 277, 290, 346, 414, 482, 550, 618, 686, 754, 834, 902, 970, 1026, 1063, 1088, 1101, 1126, 1139, 1195, 1220, 1245, 1258, 1307, 1363, 1419, 1430, 1486, 1499, 1555, 1635, 1646]) (len := 148) c184 (by decide +kernel) (by decide +kernel) ?_
                                            exact k_law_a19 hl
                                          · refine zG_case (fun c190 => ?_) (fun c190 => ?_)
                                            · refine zG_tin (k := 20) (off := 1195) (tgt := 1235) (dflt := 1659) (lo := 0) (hi := 32) (offs := #[148, 221, 277, 290, 346, 414, 482, 550, 618, 686, 754, 834, 902, 970, 1026, 1063, 1088, 1101, 1126, 1139, 1195, 1220, 1245, 1258, 1307, 1363, 1419, 1430, 1486, 1499, 1555, 1635, 1646]) (len := 148) c190 (by decide +kernel) (by decide +kernel) ?_
                                              exact k_law_a20 hl
                                            · refine zG_case (fun c196 => ?_) (fun c196 => ?_)
                                              · refine zG_tin (k := 21) (off := 1220) (tgt := 1260) (dflt := 1659) (lo := 0) (hi := 32) (offs := #[148, 221, 277, 290, 346, 414, 482, 550, 618, 686, 754, 834, 902, 970, 1026, 1063, 1088, 1101, 1126, 1139, 1195, 1220, 1245, 1258, 1307, 1363, 1419, 1430, 1486, 1499, 1555, 1635, 1646]) (len := 148) c196 (by decide +kernel) (by decide +kernel) ?_
                                                exact k_law_a21 hl
                                              · refine zG_case (fun c200 => ?_) (fun c200 => ?_)
                                                · refine zG_tin (k := 22) (off := 1245) (tgt := 1285) (dflt := 1659) (lo := 0) (hi := 32) (offs := #[148, 221, 277, 290, 346, 414, 482, 550, 618, 686, 754, 834, 902, 970, 1026, 1063, 1088, 1101, 1126, 1139, 1195, 1220, 1245, 1258, 1307, 1363, 1419, 1430, 1486, 1499, 1555, 1635, 1646]) (len := 148) c200 (by decide +kernel) (by decide +kernel) ?_
                                                  exact k_law_a22 hl
                                                · refine zG_case (fun c210 => ?_) (fun c210 => ?_)
                                                  · refine zG_tin (k := 23) (off := 1258) (tgt := 1298) (dflt := 1659) (lo := 0) (hi := 32) (offs := #[148, 221, 277, 290, 346, 414, 482, 550, 618, 686, 754, 834, 902, 970, 1026, 1063, 1088, 1101, 1126, 1139, 1195, 1220, 1245, 1258, 1307, 1363, 1419, 1430, 1486, 1499, 1555, 1635, 1646]) (len := 148) c210 (by decide +kernel) (by decide +kernel) ?_
                                                    exact k_law_a23 hl
                                                  · refine zG_case (fun c219 => ?_) (fun c219 => ?_)
                                                    · refine zG_tin (k := 24) (off := 1307) (tgt := 1347) (dflt := 1659) (lo := 0) (hi := 32) (offs := #[148, 221, 277, 290, 346, 414, 482, 550, 618, 686, 754, 834, 902, 970, 1026, 1063, 1088, 1101, 1126, 1139, 1195, 1220, 1245, 1258, 1307, 1363, 1419, 1430, 1486, 1499, 1555, 1635, 1646]) (len := 148) c219 (by decide +kernel) (by decide +kernel) ?_
                                                      exact k_law_a24 hl
                                                    · refine zG_case (fun c228 => ?_) (fun c228 => ?_)
                                                      · refine zG_tin (k := 25) (off := 1363) (tgt := 1403) (dflt := 1659) (lo := 0) (hi := 32) (offs := #[148, 221, 277, 290, 346, 414, 482, 550, 618, 686, 754, 834, 902, 970, 1026, 1063, 1088, 1101, 1126, 1139, 1195, 1220, 1245, 1258, 1307, 1363, 1419, 1430, 1486, 1499, 1555, 1635, 1646]) (len := 148) c228 (by decide +kernel) (by decide +kernel) ?_
                                                        exact k_law_a25 hl
                                                      · refine zG_case (fun c231 => ?_) (fun c231 => ?_)
                                                        · refine zG_tin (k := 26) (off := 1419) (tgt := 1459) (dflt := 1659) (lo := 0) (hi := 32) (offs := #[148, 221, 277, 290, 346, 414, 482, 550, 618, 686, 754, 834, 902, 970, 1026, 1063, 1088, 1101, 1126, 1139, 1195, 1220, 1245, 1258, 1307, 1363, 1419, 1430, 1486, 1499, 1555, 1635, 1646]) (len := 148) c231 (by decide +kernel) (by decide +kernel) ?_
                                                          exact k_law_a26 hl
                                                        · refine zG_case (fun c240 => ?_) (fun c240 => ?_)
                                                          · refine zG_tin (k := 27) (off := 1430) (tgt := 1470) (dflt := 1659) (lo := 0) (hi := 32) (offs := #[148, 221, 277, 290, 346, 414, 482, 550, 618, 686, 754, 834, 902, 970, 1026, 1063, 1088, 1101, 1126, 1139, 1195, 1220, 1245, 1258, 1307, 1363, 1419, 1430, 1486, 1499, 1555, 1635, 1646]) (len := 148) c240 (by decide +kernel) (by decide +kernel) ?_
                                                            exact k_law_a27 hl
                                                          · refine zG_case (fun c244 => ?_) (fun c244 => ?_)
                                                            · refine zG_tin (k := 28) (off := 1486) (tgt := 1526) (dflt := 1659) (lo := 0) (hi := 32) (offs := #[148, 221, 277, 290, 346, 414, 482, 550, 618, 686, 754, 834, 902, 970, 1026, 1063, 1088, 1101, 1126, 1139, 1195, 1220, 1245, 1258, 1307, 1363, 1419, 1430, 1486, 1499, 1555, 1635, 1646]) (len := 148) c244 (by decide +kernel) (by decide +kernel) ?_
                                                              exact k_law_a28 hl
                                                            · refine zG_case (fun c253 => ?_) (fun c253 => ?_)
                                                              · refine zG_tin (k := 29) (off := 1499) (tgt := 1539) (dflt := 1659) (lo := 0) (hi := 32) (offs := #[148, 221, 277, 290, 346, 414, 482, 550, 618, 686, 754, 834, 902, 970, 1026, 1063, 1088, 1101, 1126, 1139, 1195, 1220, 1245, 1258, 1307, 1363, 1419, 1430, 1486, 1499, 1555, 1635, 1646]) (len := 148) c253 (by decide +kernel) (by decide +kernel) ?_
                                                                exact k_law_a29 hl
                                                              · refine zG_case (fun c266 => ?_) (fun c266 => ?_)
                                                                · refine zG_tin (k := 30) (off := 1555) (tgt := 1595) (dflt := 1659) (lo := 0) (hi := 32) (offs := #[148, 221, 277, 290, 346, 414, 482, 550, 618, 686, 754, 834, 902, 970, 1026, 1063, 1088, 1101, 1126, 1139, 1195, 1220, 1245, 1258, 1307, 1363, 1419, 1430, 1486, 1499, 1555, 1635, 1646]) (len := 148) c266 (by decide +kernel) (by decide +kernel) ?_
                                                                  exact k_law_a30 hl
                                                                · refine zG_case (fun c269 => ?_) (fun c269 => ?_)
                                                                  · refine zG_tin (k := 31) (off := 1635) (tgt := 1675) (dflt := 1659) (lo := 0) (hi := 32) (offs := #[148, 221, 277, 290, 346, 414, 482, 550, 618, 686, 754, 834, 902, 970, 1026, 1063, 1088, 1101, 1126, 1139, 1195, 1220, 1245, 1258, 1307, 1363, 1419, 1430, 1486, 1499, 1555, 1635, 1646]) (len := 148) c269 (by decide +kernel) (by decide +kernel) ?_
                                                                    exact k_law_a31 hl
                                                                  · refine zG_case (fun c273 => ?_) (fun c273 => ?_)
                                                                    · refine zG_tin (k := 32) (off := 1646) (tgt := 1686) (dflt := 1659) (lo := 0) (hi := 32) (offs := #[148, 221, 277, 290, 346, 414, 482, 550, 618, 686, 754, 834, 902, 970, 1026, 1063, 1088, 1101, 1126, 1139, 1195, 1220, 1245, 1258, 1307, 1363, 1419, 1430, 1486, 1499, 1555, 1635, 1646]) (len := 148) c273 (by decide +kernel) (by decide +kernel) ?_
                                                                      exact k_law_a32 hl
                                                                    · have e0 : Int32.toInt ((X.2 v4.toNatClampNeg) &&& 63) ≠ 0 := zne (k := 0) c15
                                                                      have e1 : Int32.toInt ((X.2 v4.toNatClampNeg) &&& 63) ≠ 1 := zne (k := 1) c24
                                                                      have e2 : Int32.toInt ((X.2 v4.toNatClampNeg) &&& 63) ≠ 2 := zne (k := 2) c28
                                                                      have e3 : Int32.toInt ((X.2 v4.toNatClampNeg) &&& 63) ≠ 3 := zne (k := 3) c37
                                                                      have e4 : Int32.toInt ((X.2 v4.toNatClampNeg) &&& 63) ≠ 4 := zne (k := 4) c48
                                                                      have e5 : Int32.toInt ((X.2 v4.toNatClampNeg) &&& 63) ≠ 5 := zne (k := 5) c59
                                                                      have e6 : Int32.toInt ((X.2 v4.toNatClampNeg) &&& 63) ≠ 6 := zne (k := 6) c70
                                                                      have e7 : Int32.toInt ((X.2 v4.toNatClampNeg) &&& 63) ≠ 7 := zne (k := 7) c81
                                                                      have e8 : Int32.toInt ((X.2 v4.toNatClampNeg) &&& 63) ≠ 8 := zne (k := 8) c92
                                                                      have e9 : Int32.toInt ((X.2 v4.toNatClampNeg) &&& 63) ≠ 9 := zne (k := 9) c103
                                                                      have e10 : Int32.toInt ((X.2 v4.toNatClampNeg) &&& 63) ≠ 10 := zne (k := 10) c116
                                                                      have e11 : Int32.toInt ((X.2 v4.toNatClampNeg) &&& 63) ≠ 11 := zne (k := 11) c127
                                                                      have e12 : Int32.toInt ((X.2 v4.toNatClampNeg) &&& 63) ≠ 12 := zne (k := 12) c138
                                                                      have e13 : Int32.toInt ((X.2 v4.toNatClampNeg) &&& 63) ≠ 13 := zne (k := 13) c147
                                                                      have e14 : Int32.toInt ((X.2 v4.toNatClampNeg) &&& 63) ≠ 14 := zne (k := 14) c155
                                                                      have e15 : Int32.toInt ((X.2 v4.toNatClampNeg) &&& 63) ≠ 15 := zne (k := 15) c161
                                                                      have e16 : Int32.toInt ((X.2 v4.toNatClampNeg) &&& 63) ≠ 16 := zne (k := 16) c165
                                                                      have e17 : Int32.toInt ((X.2 v4.toNatClampNeg) &&& 63) ≠ 17 := zne (k := 17) c171
                                                                      have e18 : Int32.toInt ((X.2 v4.toNatClampNeg) &&& 63) ≠ 18 := zne (k := 18) c175
                                                                      have e19 : Int32.toInt ((X.2 v4.toNatClampNeg) &&& 63) ≠ 19 := zne (k := 19) c184
                                                                      have e20 : Int32.toInt ((X.2 v4.toNatClampNeg) &&& 63) ≠ 20 := zne (k := 20) c190
                                                                      have e21 : Int32.toInt ((X.2 v4.toNatClampNeg) &&& 63) ≠ 21 := zne (k := 21) c196
                                                                      have e22 : Int32.toInt ((X.2 v4.toNatClampNeg) &&& 63) ≠ 22 := zne (k := 22) c200
                                                                      have e23 : Int32.toInt ((X.2 v4.toNatClampNeg) &&& 63) ≠ 23 := zne (k := 23) c210
                                                                      have e24 : Int32.toInt ((X.2 v4.toNatClampNeg) &&& 63) ≠ 24 := zne (k := 24) c219
                                                                      have e25 : Int32.toInt ((X.2 v4.toNatClampNeg) &&& 63) ≠ 25 := zne (k := 25) c228
                                                                      have e26 : Int32.toInt ((X.2 v4.toNatClampNeg) &&& 63) ≠ 26 := zne (k := 26) c231
                                                                      have e27 : Int32.toInt ((X.2 v4.toNatClampNeg) &&& 63) ≠ 27 := zne (k := 27) c240
                                                                      have e28 : Int32.toInt ((X.2 v4.toNatClampNeg) &&& 63) ≠ 28 := zne (k := 28) c244
                                                                      have e29 : Int32.toInt ((X.2 v4.toNatClampNeg) &&& 63) ≠ 29 := zne (k := 29) c253
                                                                      have e30 : Int32.toInt ((X.2 v4.toNatClampNeg) &&& 63) ≠ 30 := zne (k := 30) c266
                                                                      have e31 : Int32.toInt ((X.2 v4.toNatClampNeg) &&& 63) ≠ 31 := zne (k := 31) c269
                                                                      have e32 : Int32.toInt ((X.2 v4.toNatClampNeg) &&& 63) ≠ 32 := zne (k := 32) c273
                                                                      refine zG_tout (tgt := 1699) (dflt := 1659) (lo := 0) (hi := 32) (offs := #[148, 221, 277, 290, 346, 414, 482, 550, 618, 686, 754, 834, 902, 970, 1026, 1063, 1088, 1101, 1126, 1139, 1195, 1220, 1245, 1258, 1307, 1363, 1419, 1430, 1486, 1499, 1555, 1635, 1646]) (len := 148) (by omega) (by decide +kernel) rfl ?_
                                                                      refine zG_run t_Law [(.iinc 4 6, 0, 0), (.goto (-1679), 0, 0)] (23, [some (zr (some (200, zSO))), some (zr (some (0, 0))), some (zr (some (11, 333))), some (zr (some (106, 380))), some (zi (v4 + 6)), none, none], [], h) (by decide +kernel) rfl ?_
                                                                      exact zG_end (L' := [some (zr (some (200, zSO))), some (zr (some (0, 0))), some (zr (some (11, 333))), some (zr (some (106, 380))), some (zi (v4 + 6)), none, none]) rfl (And.intro rfl (And.intro rfl (And.intro rfl (And.intro rfl (And.intro rfl trivial)))))
