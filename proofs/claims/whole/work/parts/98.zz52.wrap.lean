/-! the law's helpers, by wip/whole/pwrap.py -/
theorem wk_0 : (Jvm.Cond.codeWith ({ cls := "ScanPackerLaw", name := "net", desc := "(LScanPacker;I[J)I" } : Jvm.MethodName) method_3_code (4 : Nat) (Option.some Jvm.ClassFile.FieldType.int) [((0 : Nat), (9 : Nat), (12 : Nat), (13 : Nat))]) ∈ zW := zW_of 876 (by decide +kernel) (by decide +kernel)
theorem wk_1 : (Jvm.Cond.initialized "ScanPackerLaw") ∈ zW := zW_of 121 (by decide +kernel) (by decide +kernel)
theorem wk_2 : (Jvm.Cond.methodLink "ScanPackerLaw" (7 : Nat) ({ cls := "ScanPacker", name := "net", desc := "(I)I" } : Jvm.MethodName)) ∈ zW := zW_of 878 (by decide +kernel) (by decide +kernel)
theorem wk_3 : (Jvm.Cond.instanceMethod ({ cls := "ScanPacker", name := "net", desc := "(I)I" } : Jvm.MethodName)) ∈ zW := zW_of 879 (by decide +kernel) (by decide +kernel)
theorem wk_4 : (Jvm.Cond.selects "ScanPacker" ({ cls := "ScanPacker", name := "net", desc := "(I)I" } : Jvm.MethodName) ({ cls := "ScanPacker", name := "net", desc := "(I)I" } : Jvm.MethodName)) ∈ zW := zW_of 880 (by decide +kernel) (by decide +kernel)
theorem wk_5 : (Jvm.Cond.classLink "ScanPackerLaw" (13 : Nat) "java/lang/IllegalArgumentException") ∈ zW := zW_of 877 (by decide +kernel) (by decide +kernel)
theorem wk_6 : (Jvm.Cond.codeWith ({ cls := "ScanPackerLaw", name := "count", desc := "(LScanPacker;I[J)I" } : Jvm.MethodName) method_4_code (4 : Nat) (Option.some Jvm.ClassFile.FieldType.int) [((0 : Nat), (9 : Nat), (12 : Nat), (18 : Nat))]) ∈ zW := zW_of 1072 (by decide +kernel) (by decide +kernel)
theorem wk_7 : (Jvm.Cond.methodLink "ScanPackerLaw" (15 : Nat) ({ cls := "ScanPacker", name := "count", desc := "(I)I" } : Jvm.MethodName)) ∈ zW := zW_of 1074 (by decide +kernel) (by decide +kernel)
theorem wk_8 : (Jvm.Cond.instanceMethod ({ cls := "ScanPacker", name := "count", desc := "(I)I" } : Jvm.MethodName)) ∈ zW := zW_of 1075 (by decide +kernel) (by decide +kernel)
theorem wk_9 : (Jvm.Cond.selects "ScanPacker" ({ cls := "ScanPacker", name := "count", desc := "(I)I" } : Jvm.MethodName) ({ cls := "ScanPacker", name := "count", desc := "(I)I" } : Jvm.MethodName)) ∈ zW := zW_of 1076 (by decide +kernel) (by decide +kernel)
theorem wk_10 : (Jvm.Cond.classLink "ScanPackerLaw" (18 : Nat) "java/util/NoSuchElementException") ∈ zW := zW_of 1073 (by decide +kernel) (by decide +kernel)
theorem wk_11 : (Jvm.Cond.codeWith ({ cls := "ScanPackerLaw", name := "line", desc := "(LScanPacker;II[J)I" } : Jvm.MethodName) method_5_code (5 : Nat) (Option.some Jvm.ClassFile.FieldType.int) [((0 : Nat), (10 : Nat), (13 : Nat), (18 : Nat))]) ∈ zW := zW_of 1142 (by decide +kernel) (by decide +kernel)
theorem wk_12 : (Jvm.Cond.methodLink "ScanPackerLaw" (20 : Nat) ({ cls := "ScanPacker", name := "line", desc := "(II)I" } : Jvm.MethodName)) ∈ zW := zW_of 1143 (by decide +kernel) (by decide +kernel)
theorem wk_13 : (Jvm.Cond.instanceMethod ({ cls := "ScanPacker", name := "line", desc := "(II)I" } : Jvm.MethodName)) ∈ zW := zW_of 1144 (by decide +kernel) (by decide +kernel)
theorem wk_14 : (Jvm.Cond.selects "ScanPacker" ({ cls := "ScanPacker", name := "line", desc := "(II)I" } : Jvm.MethodName) ({ cls := "ScanPacker", name := "line", desc := "(II)I" } : Jvm.MethodName)) ∈ zW := zW_of 1145 (by decide +kernel) (by decide +kernel)
theorem wk_15 : (Jvm.Cond.codeWith ({ cls := "ScanPackerLaw", name := "letter", desc := "(LScanPacker;II[J)I" } : Jvm.MethodName) method_6_code (5 : Nat) (Option.some Jvm.ClassFile.FieldType.int) [((0 : Nat), (10 : Nat), (13 : Nat), (18 : Nat))]) ∈ zW := zW_of 1154 (by decide +kernel) (by decide +kernel)
theorem wk_16 : (Jvm.Cond.methodLink "ScanPackerLaw" (24 : Nat) ({ cls := "ScanPacker", name := "letter", desc := "(II)I" } : Jvm.MethodName)) ∈ zW := zW_of 1155 (by decide +kernel) (by decide +kernel)
theorem wk_17 : (Jvm.Cond.instanceMethod ({ cls := "ScanPacker", name := "letter", desc := "(II)I" } : Jvm.MethodName)) ∈ zW := zW_of 1156 (by decide +kernel) (by decide +kernel)
theorem wk_18 : (Jvm.Cond.selects "ScanPacker" ({ cls := "ScanPacker", name := "letter", desc := "(II)I" } : Jvm.MethodName) ({ cls := "ScanPacker", name := "letter", desc := "(II)I" } : Jvm.MethodName)) ∈ zW := zW_of 1157 (by decide +kernel) (by decide +kernel)
theorem wk_19 : (Jvm.Cond.codeWith ({ cls := "ScanPackerLaw", name := "chain", desc := "(LScanPacker;II[J)I" } : Jvm.MethodName) method_7_code (5 : Nat) (Option.some Jvm.ClassFile.FieldType.int) [((0 : Nat), (10 : Nat), (13 : Nat), (18 : Nat))]) ∈ zW := zW_of 1161 (by decide +kernel) (by decide +kernel)
theorem wk_20 : (Jvm.Cond.methodLink "ScanPackerLaw" (27 : Nat) ({ cls := "ScanPacker", name := "chain", desc := "(II)I" } : Jvm.MethodName)) ∈ zW := zW_of 1162 (by decide +kernel) (by decide +kernel)
theorem wk_21 : (Jvm.Cond.instanceMethod ({ cls := "ScanPacker", name := "chain", desc := "(II)I" } : Jvm.MethodName)) ∈ zW := zW_of 1163 (by decide +kernel) (by decide +kernel)
theorem wk_22 : (Jvm.Cond.selects "ScanPacker" ({ cls := "ScanPacker", name := "chain", desc := "(II)I" } : Jvm.MethodName) ({ cls := "ScanPacker", name := "chain", desc := "(II)I" } : Jvm.MethodName)) ∈ zW := zW_of 1164 (by decide +kernel) (by decide +kernel)
theorem wk_23 : (Jvm.Cond.codeWith ({ cls := "ScanPackerLaw", name := "test", desc := "(LScanPacker;II[J)I" } : Jvm.MethodName) method_8_code (5 : Nat) (Option.some Jvm.ClassFile.FieldType.int) [((0 : Nat), (10 : Nat), (13 : Nat), (18 : Nat))]) ∈ zW := zW_of 1172 (by decide +kernel) (by decide +kernel)
theorem wk_24 : (Jvm.Cond.methodLink "ScanPackerLaw" (30 : Nat) ({ cls := "ScanPacker", name := "test", desc := "(II)I" } : Jvm.MethodName)) ∈ zW := zW_of 1173 (by decide +kernel) (by decide +kernel)
theorem wk_25 : (Jvm.Cond.instanceMethod ({ cls := "ScanPacker", name := "test", desc := "(II)I" } : Jvm.MethodName)) ∈ zW := zW_of 1174 (by decide +kernel) (by decide +kernel)
theorem wk_26 : (Jvm.Cond.selects "ScanPacker" ({ cls := "ScanPacker", name := "test", desc := "(II)I" } : Jvm.MethodName) ({ cls := "ScanPacker", name := "test", desc := "(II)I" } : Jvm.MethodName)) ∈ zW := zW_of 1175 (by decide +kernel) (by decide +kernel)
theorem wk_27 : (Jvm.Cond.codeWith ({ cls := "ScanPackerLaw", name := "row", desc := "(LScanPacker;II[J)I" } : Jvm.MethodName) method_9_code (5 : Nat) (Option.some Jvm.ClassFile.FieldType.int) [((0 : Nat), (10 : Nat), (13 : Nat), (18 : Nat))]) ∈ zW := zW_of 1192 (by decide +kernel) (by decide +kernel)
theorem wk_28 : (Jvm.Cond.methodLink "ScanPackerLaw" (33 : Nat) ({ cls := "ScanPacker", name := "row", desc := "(II)I" } : Jvm.MethodName)) ∈ zW := zW_of 1193 (by decide +kernel) (by decide +kernel)
theorem wk_29 : (Jvm.Cond.instanceMethod ({ cls := "ScanPacker", name := "row", desc := "(II)I" } : Jvm.MethodName)) ∈ zW := zW_of 1194 (by decide +kernel) (by decide +kernel)
theorem wk_30 : (Jvm.Cond.selects "ScanPacker" ({ cls := "ScanPacker", name := "row", desc := "(II)I" } : Jvm.MethodName) ({ cls := "ScanPacker", name := "row", desc := "(II)I" } : Jvm.MethodName)) ∈ zW := zW_of 1195 (by decide +kernel) (by decide +kernel)
theorem wk_31 : (Jvm.Cond.codeWith ({ cls := "ScanPackerLaw", name := "cube", desc := "(LScanPacker;II[J)I" } : Jvm.MethodName) method_10_code (5 : Nat) (Option.some Jvm.ClassFile.FieldType.int) [((0 : Nat), (10 : Nat), (13 : Nat), (18 : Nat))]) ∈ zW := zW_of 1203 (by decide +kernel) (by decide +kernel)
theorem wk_32 : (Jvm.Cond.methodLink "ScanPackerLaw" (36 : Nat) ({ cls := "ScanPacker", name := "cube", desc := "(II)I" } : Jvm.MethodName)) ∈ zW := zW_of 1204 (by decide +kernel) (by decide +kernel)
theorem wk_33 : (Jvm.Cond.instanceMethod ({ cls := "ScanPacker", name := "cube", desc := "(II)I" } : Jvm.MethodName)) ∈ zW := zW_of 1205 (by decide +kernel) (by decide +kernel)
theorem wk_34 : (Jvm.Cond.selects "ScanPacker" ({ cls := "ScanPacker", name := "cube", desc := "(II)I" } : Jvm.MethodName) ({ cls := "ScanPacker", name := "cube", desc := "(II)I" } : Jvm.MethodName)) ∈ zW := zW_of 1206 (by decide +kernel) (by decide +kernel)
theorem wk_35 : (Jvm.Cond.codeWith ({ cls := "ScanPackerLaw", name := "by", desc := "(LScanPacker;III[J)I" } : Jvm.MethodName) method_11_code (6 : Nat) (Option.some Jvm.ClassFile.FieldType.int) [((0 : Nat), (12 : Nat), (15 : Nat), (18 : Nat)), ((0 : Nat), (12 : Nat), (19 : Nat), (13 : Nat))]) ∈ zW := zW_of 1210 (by decide +kernel) (by decide +kernel)
theorem wk_36 : (Jvm.Cond.methodLink "ScanPackerLaw" (39 : Nat) ({ cls := "ScanPacker", name := "by", desc := "(III)I" } : Jvm.MethodName)) ∈ zW := zW_of 1211 (by decide +kernel) (by decide +kernel)
theorem wk_37 : (Jvm.Cond.instanceMethod ({ cls := "ScanPacker", name := "by", desc := "(III)I" } : Jvm.MethodName)) ∈ zW := zW_of 1212 (by decide +kernel) (by decide +kernel)
theorem wk_38 : (Jvm.Cond.selects "ScanPacker" ({ cls := "ScanPacker", name := "by", desc := "(III)I" } : Jvm.MethodName) ({ cls := "ScanPacker", name := "by", desc := "(III)I" } : Jvm.MethodName)) ∈ zW := zW_of 1213 (by decide +kernel) (by decide +kernel)
theorem wk_39 : (Jvm.Cond.codeWith ({ cls := "ScanPackerLaw", name := "program", desc := "(LScanPacker;II[J)I" } : Jvm.MethodName) method_12_code (5 : Nat) (Option.some Jvm.ClassFile.FieldType.int) [((0 : Nat), (10 : Nat), (13 : Nat), (18 : Nat))]) ∈ zW := zW_of 1221 (by decide +kernel) (by decide +kernel)
theorem wk_40 : (Jvm.Cond.methodLink "ScanPackerLaw" (43 : Nat) ({ cls := "ScanPacker", name := "program", desc := "(II)I" } : Jvm.MethodName)) ∈ zW := zW_of 1222 (by decide +kernel) (by decide +kernel)
theorem wk_41 : (Jvm.Cond.instanceMethod ({ cls := "ScanPacker", name := "program", desc := "(II)I" } : Jvm.MethodName)) ∈ zW := zW_of 1223 (by decide +kernel) (by decide +kernel)
theorem wk_42 : (Jvm.Cond.selects "ScanPacker" ({ cls := "ScanPacker", name := "program", desc := "(II)I" } : Jvm.MethodName) ({ cls := "ScanPacker", name := "program", desc := "(II)I" } : Jvm.MethodName)) ∈ zW := zW_of 1224 (by decide +kernel) (by decide +kernel)
theorem wk_43 : (Jvm.Cond.codeWith ({ cls := "ScanPackerLaw", name := "order", desc := "(LScanPacker;II[J)I" } : Jvm.MethodName) method_13_code (5 : Nat) (Option.some Jvm.ClassFile.FieldType.int) [((0 : Nat), (10 : Nat), (13 : Nat), (18 : Nat))]) ∈ zW := zW_of 1232 (by decide +kernel) (by decide +kernel)
theorem wk_44 : (Jvm.Cond.methodLink "ScanPackerLaw" (46 : Nat) ({ cls := "ScanPacker", name := "order", desc := "(II)I" } : Jvm.MethodName)) ∈ zW := zW_of 1233 (by decide +kernel) (by decide +kernel)
theorem wk_45 : (Jvm.Cond.instanceMethod ({ cls := "ScanPacker", name := "order", desc := "(II)I" } : Jvm.MethodName)) ∈ zW := zW_of 1234 (by decide +kernel) (by decide +kernel)
theorem wk_46 : (Jvm.Cond.selects "ScanPacker" ({ cls := "ScanPacker", name := "order", desc := "(II)I" } : Jvm.MethodName) ({ cls := "ScanPacker", name := "order", desc := "(II)I" } : Jvm.MethodName)) ∈ zW := zW_of 1235 (by decide +kernel) (by decide +kernel)
theorem wk_47 : (Jvm.Cond.codeWith ({ cls := "ScanPackerLaw", name := "pack", desc := "(LScanPacker;I[J)I" } : Jvm.MethodName) method_14_code (4 : Nat) (Option.some Jvm.ClassFile.FieldType.int) [((0 : Nat), (9 : Nat), (12 : Nat), (18 : Nat))]) ∈ zW := zW_of 1267 (by decide +kernel) (by decide +kernel)
theorem wk_48 : (Jvm.Cond.methodLink "ScanPackerLaw" (49 : Nat) ({ cls := "ScanPacker", name := "pack", desc := "(I)I" } : Jvm.MethodName)) ∈ zW := zW_of 1268 (by decide +kernel) (by decide +kernel)
theorem wk_49 : (Jvm.Cond.instanceMethod ({ cls := "ScanPacker", name := "pack", desc := "(I)I" } : Jvm.MethodName)) ∈ zW := zW_of 1269 (by decide +kernel) (by decide +kernel)
theorem wk_50 : (Jvm.Cond.selects "ScanPacker" ({ cls := "ScanPacker", name := "pack", desc := "(I)I" } : Jvm.MethodName) ({ cls := "ScanPacker", name := "pack", desc := "(I)I" } : Jvm.MethodName)) ∈ zW := zW_of 1270 (by decide +kernel) (by decide +kernel)
theorem wk_51 : (Jvm.Cond.codeWith ({ cls := "ScanPackerLaw", name := "defect", desc := "(LScanPacker;I[J)I" } : Jvm.MethodName) method_15_code (4 : Nat) (Option.some Jvm.ClassFile.FieldType.int) [((0 : Nat), (9 : Nat), (12 : Nat), (18 : Nat))]) ∈ zW := zW_of 1292 (by decide +kernel) (by decide +kernel)
theorem wk_52 : (Jvm.Cond.methodLink "ScanPackerLaw" (52 : Nat) ({ cls := "ScanPacker", name := "defect", desc := "(I)I" } : Jvm.MethodName)) ∈ zW := zW_of 1293 (by decide +kernel) (by decide +kernel)
theorem wk_53 : (Jvm.Cond.instanceMethod ({ cls := "ScanPacker", name := "defect", desc := "(I)I" } : Jvm.MethodName)) ∈ zW := zW_of 1294 (by decide +kernel) (by decide +kernel)
theorem wk_54 : (Jvm.Cond.selects "ScanPacker" ({ cls := "ScanPacker", name := "defect", desc := "(I)I" } : Jvm.MethodName) ({ cls := "ScanPacker", name := "defect", desc := "(I)I" } : Jvm.MethodName)) ∈ zW := zW_of 1295 (by decide +kernel) (by decide +kernel)
theorem wk_55 : (Jvm.Cond.codeWith ({ cls := "ScanPackerLaw", name := "fits", desc := "(LScanPacker;I[J)I" } : Jvm.MethodName) method_16_code (4 : Nat) (Option.some Jvm.ClassFile.FieldType.int) [((0 : Nat), (9 : Nat), (12 : Nat), (18 : Nat))]) ∈ zW := zW_of 1299 (by decide +kernel) (by decide +kernel)
theorem wk_56 : (Jvm.Cond.methodLink "ScanPackerLaw" (55 : Nat) ({ cls := "ScanPacker", name := "fits", desc := "(I)I" } : Jvm.MethodName)) ∈ zW := zW_of 1300 (by decide +kernel) (by decide +kernel)
theorem wk_57 : (Jvm.Cond.instanceMethod ({ cls := "ScanPacker", name := "fits", desc := "(I)I" } : Jvm.MethodName)) ∈ zW := zW_of 1301 (by decide +kernel) (by decide +kernel)
theorem wk_58 : (Jvm.Cond.selects "ScanPacker" ({ cls := "ScanPacker", name := "fits", desc := "(I)I" } : Jvm.MethodName) ({ cls := "ScanPacker", name := "fits", desc := "(I)I" } : Jvm.MethodName)) ∈ zW := zW_of 1302 (by decide +kernel) (by decide +kernel)
theorem wk_59 : (Jvm.Cond.codeWith ({ cls := "ScanPackerLaw", name := "look", desc := "(LScanPacker;I[J)I" } : Jvm.MethodName) method_17_code (4 : Nat) (Option.some Jvm.ClassFile.FieldType.int) [((0 : Nat), (9 : Nat), (12 : Nat), (18 : Nat))]) ∈ zW := zW_of 1315 (by decide +kernel) (by decide +kernel)
theorem wk_60 : (Jvm.Cond.methodLink "ScanPackerLaw" (58 : Nat) ({ cls := "ScanPacker", name := "look", desc := "(I)I" } : Jvm.MethodName)) ∈ zW := zW_of 1316 (by decide +kernel) (by decide +kernel)
theorem wk_61 : (Jvm.Cond.instanceMethod ({ cls := "ScanPacker", name := "look", desc := "(I)I" } : Jvm.MethodName)) ∈ zW := zW_of 1317 (by decide +kernel) (by decide +kernel)
theorem wk_62 : (Jvm.Cond.selects "ScanPacker" ({ cls := "ScanPacker", name := "look", desc := "(I)I" } : Jvm.MethodName) ({ cls := "ScanPacker", name := "look", desc := "(I)I" } : Jvm.MethodName)) ∈ zW := zW_of 1318 (by decide +kernel) (by decide +kernel)
theorem wk_63 : (Jvm.Cond.codeWith ({ cls := "ScanPackerLaw", name := "behind", desc := "(LScanPacker;I[J)I" } : Jvm.MethodName) method_18_code (4 : Nat) (Option.some Jvm.ClassFile.FieldType.int) [((0 : Nat), (9 : Nat), (12 : Nat), (13 : Nat))]) ∈ zW := zW_of 1332 (by decide +kernel) (by decide +kernel)
theorem wk_64 : (Jvm.Cond.methodLink "ScanPackerLaw" (61 : Nat) ({ cls := "ScanPacker", name := "behind", desc := "(I)I" } : Jvm.MethodName)) ∈ zW := zW_of 1333 (by decide +kernel) (by decide +kernel)
theorem wk_65 : (Jvm.Cond.instanceMethod ({ cls := "ScanPacker", name := "behind", desc := "(I)I" } : Jvm.MethodName)) ∈ zW := zW_of 1334 (by decide +kernel) (by decide +kernel)
theorem wk_66 : (Jvm.Cond.selects "ScanPacker" ({ cls := "ScanPacker", name := "behind", desc := "(I)I" } : Jvm.MethodName) ({ cls := "ScanPacker", name := "behind", desc := "(I)I" } : Jvm.MethodName)) ∈ zW := zW_of 1335 (by decide +kernel) (by decide +kernel)
theorem wk_67 : (Jvm.Cond.codeWith ({ cls := "ScanPackerLaw", name := "tells", desc := "(LScanPacker;I[J)I" } : Jvm.MethodName) method_19_code (4 : Nat) (Option.some Jvm.ClassFile.FieldType.int) [((0 : Nat), (9 : Nat), (12 : Nat), (18 : Nat))]) ∈ zW := zW_of 1339 (by decide +kernel) (by decide +kernel)
theorem wk_68 : (Jvm.Cond.methodLink "ScanPackerLaw" (64 : Nat) ({ cls := "ScanPacker", name := "tells", desc := "(I)I" } : Jvm.MethodName)) ∈ zW := zW_of 1340 (by decide +kernel) (by decide +kernel)
theorem wk_69 : (Jvm.Cond.instanceMethod ({ cls := "ScanPacker", name := "tells", desc := "(I)I" } : Jvm.MethodName)) ∈ zW := zW_of 1341 (by decide +kernel) (by decide +kernel)
theorem wk_70 : (Jvm.Cond.selects "ScanPacker" ({ cls := "ScanPacker", name := "tells", desc := "(I)I" } : Jvm.MethodName) ({ cls := "ScanPacker", name := "tells", desc := "(I)I" } : Jvm.MethodName)) ∈ zW := zW_of 1342 (by decide +kernel) (by decide +kernel)
theorem wk_71 : (Jvm.Cond.codeWith ({ cls := "ScanPackerLaw", name := "years", desc := "(LScanPacker;III[J)I" } : Jvm.MethodName) method_20_code (6 : Nat) (Option.some Jvm.ClassFile.FieldType.int) [((0 : Nat), (12 : Nat), (15 : Nat), (18 : Nat)), ((0 : Nat), (12 : Nat), (19 : Nat), (13 : Nat))]) ∈ zW := zW_of 1350 (by decide +kernel) (by decide +kernel)
theorem wk_72 : (Jvm.Cond.methodLink "ScanPackerLaw" (67 : Nat) ({ cls := "ScanPacker", name := "years", desc := "(III)I" } : Jvm.MethodName)) ∈ zW := zW_of 1351 (by decide +kernel) (by decide +kernel)
theorem wk_73 : (Jvm.Cond.instanceMethod ({ cls := "ScanPacker", name := "years", desc := "(III)I" } : Jvm.MethodName)) ∈ zW := zW_of 1352 (by decide +kernel) (by decide +kernel)
theorem wk_74 : (Jvm.Cond.selects "ScanPacker" ({ cls := "ScanPacker", name := "years", desc := "(III)I" } : Jvm.MethodName) ({ cls := "ScanPacker", name := "years", desc := "(III)I" } : Jvm.MethodName)) ∈ zW := zW_of 1353 (by decide +kernel) (by decide +kernel)
def m_L_net : zM := (({ cls := "ScanPackerLaw", name := "net", desc := "(LScanPacker;I[J)I" } : Jvm.MethodName), method_3_code, 4, (Option.some Jvm.ClassFile.FieldType.int), [(0, 9, 12, 13)], 9)
theorem ok_L_net : zMok m_L_net := ⟨by decide +kernel, wk_0, wk_1, by decide, by decide +kernel, by decide +kernel⟩
theorem c_L_net {l : Launch} {X : zX} (hl : l.stackTraces = false) {h : zH} {v1 : Int32} {x : Int32 × zH} (hx : f_L_net h v1 = some x) : zCt l (true, 2) 2 m_L_net X 1 6 [zr (some (0, 0)), zi v1, zr (some (106, 380))] h (.inl (some (zi x.1)), x.2) := by
  refine zCt_of ok_L_net hl (Nat.le_of_ble_eq_true rfl) ?_
  refine zV_eq (c := (0, [some (zr (some (0, 0))), some (zi v1), some (zr (some (106, 380))), none], [], h)) rfl ?_
  refine zH_run (t_none _) [(.aload_n 2, 0, 0), (.iconst 0, 0, 0), (.aload_n 0, 0, 0), (.iload_n 1, 0, 0)] (4, [some (zr (some (0, 0))), some (zi v1), some (zr (some (106, 380))), none], [zi v1, zr (some (0, 0)), zi 0, zr (some (106, 380))], h) (by decide +kernel) rfl ?_
  unfold f_L_net at hx
  cases he : f_Main_net h v1 with
  | none => rw [he] at hx; cases hx
  | some y =>
    rw [he] at hx
    rcases y with ⟨a, h1⟩ | ⟨k, h1⟩
    · cases hx
      refine zV_callV (g' := (true, 2)) (bc := 0) (bs := 0) (mc := 1) (ms := 6) (idx := 7) (as := [zi v1]) (rest := [zi 0, zr (some (106, 380))]) (n := 1) (f := (.inl (some (zi a)), h1)) (by decide +kernel) (c_Main_net hl he) ⟨ok_Main_net, by decide, by decide +kernel⟩ rfl wk_2 wk_3 wk_4 (by decide) rfl rfl rfl (Nat.le_of_ble_eq_true rfl) (Or.inl rfl) ⟨fun r hr _ => ?_, fun k hk => by cases hk⟩
      cases hr
      refine zH_run (t_none _) [(.i2l, 0, 0)] (8, [some (zr (some (0, 0))), some (zi v1), some (zr (some (106, 380))), none], [zl a.toInt64, zi 0, zr (some (106, 380))], h1) (by decide +kernel) rfl ?_
      refine zV_st (zS_ast (h' := zsL h1 380 0 a.toInt64) rfl (by decide +kernel) (by decide +kernel) rfl) (zle.same rfl) ?_
      refine zH_run (t_none _) [(.goto 6, 0, 0), (.iconst 0, 0, 0)] (16, [some (zr (some (0, 0))), some (zi v1), some (zr (some (106, 380))), none], [zi 0], zsL h1 380 0 a.toInt64) (by decide +kernel) rfl ?_
      exact zV_ret (g := (true, 2)) (r := some (zi 0)) (zrd_i rfl (by decide +kernel)) rfl
    · dsimp only [Option.bind_some, Sum.elim_inr] at hx
      split at hx
      · rename_i hk
        cases hx
        subst hk
        exact zV_catch (g' := (true, 2)) (bc := 0) (bs := 0) (mc := 1) (ms := 6) (idx := 7) (as := [zi v1]) (rest := [zi 0, zr (some (106, 380))]) (n := 1) (k := 2) (pre := []) (suf := []) (a := 0) (b := 9) (hp := 12) (t := 13) (w := 1) (slot := 3) (z := 1) (by decide +kernel) (c_Main_net hl he) ⟨ok_Main_net, by decide, by decide +kernel⟩ rfl wk_2 wk_3 wk_4 (by decide) rfl rfl rfl (Nat.le_of_ble_eq_true rfl) rfl (Or.inl rfl) (by decide) (by decide) wk_5 (Or.inr rfl) (Or.inr ⟨rfl, 3, rfl, by decide +kernel⟩) (by decide) rfl (by decide +kernel) (by decide +kernel) rfl rfl (Or.inl rfl)
      · cases hx
def m_L_count : zM := (({ cls := "ScanPackerLaw", name := "count", desc := "(LScanPacker;I[J)I" } : Jvm.MethodName), method_4_code, 4, (Option.some Jvm.ClassFile.FieldType.int), [(0, 9, 12, 18)], 9)
theorem ok_L_count : zMok m_L_count := ⟨by decide +kernel, wk_6, wk_1, by decide, by decide +kernel, by decide +kernel⟩
theorem c_L_count {l : Launch} {X : zX} (hl : l.stackTraces = false) {h : zH} {v1 : Int32} {x : Int32 × zH} (hx : f_L_count h v1 = some x) : zCt l (true, 2) 2 m_L_count X 1 6 [zr (some (0, 0)), zi v1, zr (some (106, 380))] h (.inl (some (zi x.1)), x.2) := by
  refine zCt_of ok_L_count hl (Nat.le_of_ble_eq_true rfl) ?_
  refine zV_eq (c := (0, [some (zr (some (0, 0))), some (zi v1), some (zr (some (106, 380))), none], [], h)) rfl ?_
  refine zH_run (t_none _) [(.aload_n 2, 0, 0), (.iconst 0, 0, 0), (.aload_n 0, 0, 0), (.iload_n 1, 0, 0)] (4, [some (zr (some (0, 0))), some (zi v1), some (zr (some (106, 380))), none], [zi v1, zr (some (0, 0)), zi 0, zr (some (106, 380))], h) (by decide +kernel) rfl ?_
  unfold f_L_count at hx
  cases he : f_Main_count h v1 with
  | none => rw [he] at hx; cases hx
  | some y =>
    rw [he] at hx
    rcases y with ⟨a, h1⟩ | ⟨k, h1⟩
    · cases hx
      refine zV_callV (g' := (true, 2)) (bc := 0) (bs := 0) (mc := 1) (ms := 6) (idx := 15) (as := [zi v1]) (rest := [zi 0, zr (some (106, 380))]) (n := 1) (f := (.inl (some (zi a)), h1)) (by decide +kernel) (c_Main_count hl he) ⟨ok_Main_count, by decide, by decide +kernel⟩ rfl wk_7 wk_8 wk_9 (by decide) rfl rfl rfl (Nat.le_of_ble_eq_true rfl) (Or.inl rfl) ⟨fun r hr _ => ?_, fun k hk => by cases hk⟩
      cases hr
      refine zH_run (t_none _) [(.i2l, 0, 0)] (8, [some (zr (some (0, 0))), some (zi v1), some (zr (some (106, 380))), none], [zl a.toInt64, zi 0, zr (some (106, 380))], h1) (by decide +kernel) rfl ?_
      refine zV_st (zS_ast (h' := zsL h1 380 0 a.toInt64) rfl (by decide +kernel) (by decide +kernel) rfl) (zle.same rfl) ?_
      refine zH_run (t_none _) [(.goto 6, 0, 0), (.iconst 0, 0, 0)] (16, [some (zr (some (0, 0))), some (zi v1), some (zr (some (106, 380))), none], [zi 0], zsL h1 380 0 a.toInt64) (by decide +kernel) rfl ?_
      exact zV_ret (g := (true, 2)) (r := some (zi 0)) (zrd_i rfl (by decide +kernel)) rfl
    · dsimp only [Option.bind_some, Sum.elim_inr] at hx
      split at hx
      · rename_i hk
        cases hx
        subst hk
        exact zV_catch (g' := (true, 2)) (bc := 0) (bs := 0) (mc := 1) (ms := 6) (idx := 15) (as := [zi v1]) (rest := [zi 0, zr (some (106, 380))]) (n := 1) (k := 1) (pre := []) (suf := []) (a := 0) (b := 9) (hp := 12) (t := 18) (w := 1) (slot := 3) (z := 1) (by decide +kernel) (c_Main_count hl he) ⟨ok_Main_count, by decide, by decide +kernel⟩ rfl wk_7 wk_8 wk_9 (by decide) rfl rfl rfl (Nat.le_of_ble_eq_true rfl) rfl (Or.inl rfl) (by decide) (by decide) wk_10 (Or.inl rfl) (Or.inr ⟨rfl, 3, rfl, by decide +kernel⟩) (by decide) rfl (by decide +kernel) (by decide +kernel) rfl rfl (Or.inl rfl)
      · cases hx
def m_L_line : zM := (({ cls := "ScanPackerLaw", name := "line", desc := "(LScanPacker;II[J)I" } : Jvm.MethodName), method_5_code, 5, (Option.some Jvm.ClassFile.FieldType.int), [(0, 10, 13, 18)], 8)
theorem ok_L_line : zMok m_L_line := ⟨by decide +kernel, wk_11, wk_1, by decide, by decide +kernel, by decide +kernel⟩
theorem c_L_line {l : Launch} {X : zX} (hl : l.stackTraces = false) {h : zH} {v1 : Int32} {v2 : Int32} {x : Int32 × zH} (hx : f_L_line h v1 v2 = some x) : zCt l (true, 2) 2 m_L_line X 2 12 [zr (some (0, 0)), zi v1, zi v2, zr (some (106, 380))] h (.inl (some (zi x.1)), x.2) := by
  refine zCt_of ok_L_line hl (Nat.le_of_ble_eq_true rfl) ?_
  refine zV_eq (c := (0, [some (zr (some (0, 0))), some (zi v1), some (zi v2), some (zr (some (106, 380))), none], [], h)) rfl ?_
  refine zH_run (t_none _) [(.aload_n 3, 0, 0), (.iconst 0, 0, 0), (.aload_n 0, 0, 0), (.iload_n 1, 0, 0), (.iload_n 2, 0, 0)] (5, [some (zr (some (0, 0))), some (zi v1), some (zi v2), some (zr (some (106, 380))), none], [zi v2, zi v1, zr (some (0, 0)), zi 0, zr (some (106, 380))], h) (by decide +kernel) rfl ?_
  unfold f_L_line at hx
  cases he : f_Main_line h v1 v2 with
  | none => rw [he] at hx; cases hx
  | some y =>
    rw [he] at hx
    rcases y with ⟨a, h1⟩ | ⟨k, h1⟩
    · cases hx
      refine zV_callV (g' := (true, 2)) (bc := 0) (bs := 0) (mc := 2) (ms := 12) (idx := 20) (as := [zi v1, zi v2]) (rest := [zi 0, zr (some (106, 380))]) (n := 2) (f := (.inl (some (zi a)), h1)) (by decide +kernel) (c_Main_line hl he) ⟨ok_Main_line, by decide, by decide +kernel⟩ rfl wk_12 wk_13 wk_14 (by decide) rfl rfl rfl (Nat.le_of_ble_eq_true rfl) (Or.inl rfl) ⟨fun r hr _ => ?_, fun k hk => by cases hk⟩
      cases hr
      refine zH_run (t_none _) [(.i2l, 0, 0)] (9, [some (zr (some (0, 0))), some (zi v1), some (zi v2), some (zr (some (106, 380))), none], [zl a.toInt64, zi 0, zr (some (106, 380))], h1) (by decide +kernel) rfl ?_
      refine zV_st (zS_ast (h' := zsL h1 380 0 a.toInt64) rfl (by decide +kernel) (by decide +kernel) rfl) (zle.same rfl) ?_
      refine zH_run (t_none _) [(.goto 7, 0, 0), (.iconst 0, 0, 0)] (18, [some (zr (some (0, 0))), some (zi v1), some (zi v2), some (zr (some (106, 380))), none], [zi 0], zsL h1 380 0 a.toInt64) (by decide +kernel) rfl ?_
      exact zV_ret (g := (true, 2)) (r := some (zi 0)) (zrd_i rfl (by decide +kernel)) rfl
    · dsimp only [Option.bind_some, Sum.elim_inr] at hx
      split at hx
      · rename_i hk
        cases hx
        subst hk
        exact zV_catch (g' := (true, 2)) (bc := 0) (bs := 0) (mc := 2) (ms := 12) (idx := 20) (as := [zi v1, zi v2]) (rest := [zi 0, zr (some (106, 380))]) (n := 2) (k := 1) (pre := []) (suf := []) (a := 0) (b := 10) (hp := 13) (t := 18) (w := 2) (slot := 4) (z := 1) (by decide +kernel) (c_Main_line hl he) ⟨ok_Main_line, by decide, by decide +kernel⟩ rfl wk_12 wk_13 wk_14 (by decide) rfl rfl rfl (Nat.le_of_ble_eq_true rfl) rfl (Or.inl rfl) (by decide) (by decide) wk_10 (Or.inl rfl) (Or.inl ⟨rfl, by decide +kernel⟩) (by decide) rfl (by decide +kernel) (by decide +kernel) rfl rfl (Or.inl rfl)
      · cases hx
def m_L_letter : zM := (({ cls := "ScanPackerLaw", name := "letter", desc := "(LScanPacker;II[J)I" } : Jvm.MethodName), method_6_code, 5, (Option.some Jvm.ClassFile.FieldType.int), [(0, 10, 13, 18)], 8)
theorem ok_L_letter : zMok m_L_letter := ⟨by decide +kernel, wk_15, wk_1, by decide, by decide +kernel, by decide +kernel⟩
theorem c_L_letter {l : Launch} {X : zX} (hl : l.stackTraces = false) {h : zH} {v1 : Int32} {v2 : Int32} {x : Int32 × zH} (hx : f_L_letter h v1 v2 = some x) : zCt l (true, 2) 2 m_L_letter X 2 12 [zr (some (0, 0)), zi v1, zi v2, zr (some (106, 380))] h (.inl (some (zi x.1)), x.2) := by
  refine zCt_of ok_L_letter hl (Nat.le_of_ble_eq_true rfl) ?_
  refine zV_eq (c := (0, [some (zr (some (0, 0))), some (zi v1), some (zi v2), some (zr (some (106, 380))), none], [], h)) rfl ?_
  refine zH_run (t_none _) [(.aload_n 3, 0, 0), (.iconst 0, 0, 0), (.aload_n 0, 0, 0), (.iload_n 1, 0, 0), (.iload_n 2, 0, 0)] (5, [some (zr (some (0, 0))), some (zi v1), some (zi v2), some (zr (some (106, 380))), none], [zi v2, zi v1, zr (some (0, 0)), zi 0, zr (some (106, 380))], h) (by decide +kernel) rfl ?_
  unfold f_L_letter at hx
  cases he : f_Main_letter h v1 v2 with
  | none => rw [he] at hx; cases hx
  | some y =>
    rw [he] at hx
    rcases y with ⟨a, h1⟩ | ⟨k, h1⟩
    · cases hx
      refine zV_callV (g' := (true, 2)) (bc := 0) (bs := 0) (mc := 2) (ms := 12) (idx := 24) (as := [zi v1, zi v2]) (rest := [zi 0, zr (some (106, 380))]) (n := 2) (f := (.inl (some (zi a)), h1)) (by decide +kernel) (c_Main_letter hl he) ⟨ok_Main_letter, by decide, by decide +kernel⟩ rfl wk_16 wk_17 wk_18 (by decide) rfl rfl rfl (Nat.le_of_ble_eq_true rfl) (Or.inl rfl) ⟨fun r hr _ => ?_, fun k hk => by cases hk⟩
      cases hr
      refine zH_run (t_none _) [(.i2l, 0, 0)] (9, [some (zr (some (0, 0))), some (zi v1), some (zi v2), some (zr (some (106, 380))), none], [zl a.toInt64, zi 0, zr (some (106, 380))], h1) (by decide +kernel) rfl ?_
      refine zV_st (zS_ast (h' := zsL h1 380 0 a.toInt64) rfl (by decide +kernel) (by decide +kernel) rfl) (zle.same rfl) ?_
      refine zH_run (t_none _) [(.goto 7, 0, 0), (.iconst 0, 0, 0)] (18, [some (zr (some (0, 0))), some (zi v1), some (zi v2), some (zr (some (106, 380))), none], [zi 0], zsL h1 380 0 a.toInt64) (by decide +kernel) rfl ?_
      exact zV_ret (g := (true, 2)) (r := some (zi 0)) (zrd_i rfl (by decide +kernel)) rfl
    · dsimp only [Option.bind_some, Sum.elim_inr] at hx
      split at hx
      · rename_i hk
        cases hx
        subst hk
        exact zV_catch (g' := (true, 2)) (bc := 0) (bs := 0) (mc := 2) (ms := 12) (idx := 24) (as := [zi v1, zi v2]) (rest := [zi 0, zr (some (106, 380))]) (n := 2) (k := 1) (pre := []) (suf := []) (a := 0) (b := 10) (hp := 13) (t := 18) (w := 2) (slot := 4) (z := 1) (by decide +kernel) (c_Main_letter hl he) ⟨ok_Main_letter, by decide, by decide +kernel⟩ rfl wk_16 wk_17 wk_18 (by decide) rfl rfl rfl (Nat.le_of_ble_eq_true rfl) rfl (Or.inl rfl) (by decide) (by decide) wk_10 (Or.inl rfl) (Or.inl ⟨rfl, by decide +kernel⟩) (by decide) rfl (by decide +kernel) (by decide +kernel) rfl rfl (Or.inl rfl)
      · cases hx
def m_L_chain : zM := (({ cls := "ScanPackerLaw", name := "chain", desc := "(LScanPacker;II[J)I" } : Jvm.MethodName), method_7_code, 5, (Option.some Jvm.ClassFile.FieldType.int), [(0, 10, 13, 18)], 8)
theorem ok_L_chain : zMok m_L_chain := ⟨by decide +kernel, wk_19, wk_1, by decide, by decide +kernel, by decide +kernel⟩
theorem c_L_chain {l : Launch} {X : zX} (hl : l.stackTraces = false) {h : zH} {v1 : Int32} {v2 : Int32} {x : Int32 × zH} (hx : f_L_chain h v1 v2 = some x) : zCt l (true, 2) 2 m_L_chain X 1 6 [zr (some (0, 0)), zi v1, zi v2, zr (some (106, 380))] h (.inl (some (zi x.1)), x.2) := by
  refine zCt_of ok_L_chain hl (Nat.le_of_ble_eq_true rfl) ?_
  refine zV_eq (c := (0, [some (zr (some (0, 0))), some (zi v1), some (zi v2), some (zr (some (106, 380))), none], [], h)) rfl ?_
  refine zH_run (t_none _) [(.aload_n 3, 0, 0), (.iconst 0, 0, 0), (.aload_n 0, 0, 0), (.iload_n 1, 0, 0), (.iload_n 2, 0, 0)] (5, [some (zr (some (0, 0))), some (zi v1), some (zi v2), some (zr (some (106, 380))), none], [zi v2, zi v1, zr (some (0, 0)), zi 0, zr (some (106, 380))], h) (by decide +kernel) rfl ?_
  unfold f_L_chain at hx
  cases he : f_Main_chain h v1 v2 with
  | none => rw [he] at hx; cases hx
  | some y =>
    rw [he] at hx
    rcases y with ⟨a, h1⟩ | ⟨k, h1⟩
    · cases hx
      refine zV_callV (g' := (true, 2)) (bc := 0) (bs := 0) (mc := 1) (ms := 6) (idx := 27) (as := [zi v1, zi v2]) (rest := [zi 0, zr (some (106, 380))]) (n := 2) (f := (.inl (some (zi a)), h1)) (by decide +kernel) (c_Main_chain hl he) ⟨ok_Main_chain, by decide, by decide +kernel⟩ rfl wk_20 wk_21 wk_22 (by decide) rfl rfl rfl (Nat.le_of_ble_eq_true rfl) (Or.inl rfl) ⟨fun r hr _ => ?_, fun k hk => by cases hk⟩
      cases hr
      refine zH_run (t_none _) [(.i2l, 0, 0)] (9, [some (zr (some (0, 0))), some (zi v1), some (zi v2), some (zr (some (106, 380))), none], [zl a.toInt64, zi 0, zr (some (106, 380))], h1) (by decide +kernel) rfl ?_
      refine zV_st (zS_ast (h' := zsL h1 380 0 a.toInt64) rfl (by decide +kernel) (by decide +kernel) rfl) (zle.same rfl) ?_
      refine zH_run (t_none _) [(.goto 7, 0, 0), (.iconst 0, 0, 0)] (18, [some (zr (some (0, 0))), some (zi v1), some (zi v2), some (zr (some (106, 380))), none], [zi 0], zsL h1 380 0 a.toInt64) (by decide +kernel) rfl ?_
      exact zV_ret (g := (true, 2)) (r := some (zi 0)) (zrd_i rfl (by decide +kernel)) rfl
    · dsimp only [Option.bind_some, Sum.elim_inr] at hx
      split at hx
      · rename_i hk
        cases hx
        subst hk
        exact zV_catch (g' := (true, 2)) (bc := 0) (bs := 0) (mc := 1) (ms := 6) (idx := 27) (as := [zi v1, zi v2]) (rest := [zi 0, zr (some (106, 380))]) (n := 2) (k := 1) (pre := []) (suf := []) (a := 0) (b := 10) (hp := 13) (t := 18) (w := 2) (slot := 4) (z := 1) (by decide +kernel) (c_Main_chain hl he) ⟨ok_Main_chain, by decide, by decide +kernel⟩ rfl wk_20 wk_21 wk_22 (by decide) rfl rfl rfl (Nat.le_of_ble_eq_true rfl) rfl (Or.inl rfl) (by decide) (by decide) wk_10 (Or.inl rfl) (Or.inl ⟨rfl, by decide +kernel⟩) (by decide) rfl (by decide +kernel) (by decide +kernel) rfl rfl (Or.inl rfl)
      · cases hx
def m_L_test : zM := (({ cls := "ScanPackerLaw", name := "test", desc := "(LScanPacker;II[J)I" } : Jvm.MethodName), method_8_code, 5, (Option.some Jvm.ClassFile.FieldType.int), [(0, 10, 13, 18)], 8)
theorem ok_L_test : zMok m_L_test := ⟨by decide +kernel, wk_23, wk_1, by decide, by decide +kernel, by decide +kernel⟩
theorem c_L_test {l : Launch} {X : zX} (hl : l.stackTraces = false) {h : zH} {v1 : Int32} {v2 : Int32} {x : Int32 × zH} (hx : f_L_test h v1 v2 = some x) : zCt l (true, 2) 2 m_L_test X 2 12 [zr (some (0, 0)), zi v1, zi v2, zr (some (106, 380))] h (.inl (some (zi x.1)), x.2) := by
  refine zCt_of ok_L_test hl (Nat.le_of_ble_eq_true rfl) ?_
  refine zV_eq (c := (0, [some (zr (some (0, 0))), some (zi v1), some (zi v2), some (zr (some (106, 380))), none], [], h)) rfl ?_
  refine zH_run (t_none _) [(.aload_n 3, 0, 0), (.iconst 0, 0, 0), (.aload_n 0, 0, 0), (.iload_n 1, 0, 0), (.iload_n 2, 0, 0)] (5, [some (zr (some (0, 0))), some (zi v1), some (zi v2), some (zr (some (106, 380))), none], [zi v2, zi v1, zr (some (0, 0)), zi 0, zr (some (106, 380))], h) (by decide +kernel) rfl ?_
  unfold f_L_test at hx
  cases he : f_Main_test h v1 v2 with
  | none => rw [he] at hx; cases hx
  | some y =>
    rw [he] at hx
    rcases y with ⟨a, h1⟩ | ⟨k, h1⟩
    · cases hx
      refine zV_callV (g' := (true, 2)) (bc := 0) (bs := 0) (mc := 2) (ms := 12) (idx := 30) (as := [zi v1, zi v2]) (rest := [zi 0, zr (some (106, 380))]) (n := 2) (f := (.inl (some (zi a)), h1)) (by decide +kernel) (c_Main_test hl he) ⟨ok_Main_test, by decide, by decide +kernel⟩ rfl wk_24 wk_25 wk_26 (by decide) rfl rfl rfl (Nat.le_of_ble_eq_true rfl) (Or.inl rfl) ⟨fun r hr _ => ?_, fun k hk => by cases hk⟩
      cases hr
      refine zH_run (t_none _) [(.i2l, 0, 0)] (9, [some (zr (some (0, 0))), some (zi v1), some (zi v2), some (zr (some (106, 380))), none], [zl a.toInt64, zi 0, zr (some (106, 380))], h1) (by decide +kernel) rfl ?_
      refine zV_st (zS_ast (h' := zsL h1 380 0 a.toInt64) rfl (by decide +kernel) (by decide +kernel) rfl) (zle.same rfl) ?_
      refine zH_run (t_none _) [(.goto 7, 0, 0), (.iconst 0, 0, 0)] (18, [some (zr (some (0, 0))), some (zi v1), some (zi v2), some (zr (some (106, 380))), none], [zi 0], zsL h1 380 0 a.toInt64) (by decide +kernel) rfl ?_
      exact zV_ret (g := (true, 2)) (r := some (zi 0)) (zrd_i rfl (by decide +kernel)) rfl
    · dsimp only [Option.bind_some, Sum.elim_inr] at hx
      split at hx
      · rename_i hk
        cases hx
        subst hk
        exact zV_catch (g' := (true, 2)) (bc := 0) (bs := 0) (mc := 2) (ms := 12) (idx := 30) (as := [zi v1, zi v2]) (rest := [zi 0, zr (some (106, 380))]) (n := 2) (k := 1) (pre := []) (suf := []) (a := 0) (b := 10) (hp := 13) (t := 18) (w := 2) (slot := 4) (z := 1) (by decide +kernel) (c_Main_test hl he) ⟨ok_Main_test, by decide, by decide +kernel⟩ rfl wk_24 wk_25 wk_26 (by decide) rfl rfl rfl (Nat.le_of_ble_eq_true rfl) rfl (Or.inl rfl) (by decide) (by decide) wk_10 (Or.inl rfl) (Or.inl ⟨rfl, by decide +kernel⟩) (by decide) rfl (by decide +kernel) (by decide +kernel) rfl rfl (Or.inl rfl)
      · cases hx
def m_L_row : zM := (({ cls := "ScanPackerLaw", name := "row", desc := "(LScanPacker;II[J)I" } : Jvm.MethodName), method_9_code, 5, (Option.some Jvm.ClassFile.FieldType.int), [(0, 10, 13, 18)], 8)
theorem ok_L_row : zMok m_L_row := ⟨by decide +kernel, wk_27, wk_1, by decide, by decide +kernel, by decide +kernel⟩
theorem c_L_row {l : Launch} {X : zX} (hl : l.stackTraces = false) {h : zH} {v1 : Int32} {v2 : Int32} {x : Int32 × zH} (hx : f_L_row h v1 v2 = some x) : zCt l (true, 2) 2 m_L_row X 2 12 [zr (some (0, 0)), zi v1, zi v2, zr (some (106, 380))] h (.inl (some (zi x.1)), x.2) := by
  refine zCt_of ok_L_row hl (Nat.le_of_ble_eq_true rfl) ?_
  refine zV_eq (c := (0, [some (zr (some (0, 0))), some (zi v1), some (zi v2), some (zr (some (106, 380))), none], [], h)) rfl ?_
  refine zH_run (t_none _) [(.aload_n 3, 0, 0), (.iconst 0, 0, 0), (.aload_n 0, 0, 0), (.iload_n 1, 0, 0), (.iload_n 2, 0, 0)] (5, [some (zr (some (0, 0))), some (zi v1), some (zi v2), some (zr (some (106, 380))), none], [zi v2, zi v1, zr (some (0, 0)), zi 0, zr (some (106, 380))], h) (by decide +kernel) rfl ?_
  unfold f_L_row at hx
  cases he : f_Main_row h v1 v2 with
  | none => rw [he] at hx; cases hx
  | some y =>
    rw [he] at hx
    rcases y with ⟨a, h1⟩ | ⟨k, h1⟩
    · cases hx
      refine zV_callV (g' := (true, 2)) (bc := 0) (bs := 0) (mc := 2) (ms := 12) (idx := 33) (as := [zi v1, zi v2]) (rest := [zi 0, zr (some (106, 380))]) (n := 2) (f := (.inl (some (zi a)), h1)) (by decide +kernel) (c_Main_row hl he) ⟨ok_Main_row, by decide, by decide +kernel⟩ rfl wk_28 wk_29 wk_30 (by decide) rfl rfl rfl (Nat.le_of_ble_eq_true rfl) (Or.inl rfl) ⟨fun r hr _ => ?_, fun k hk => by cases hk⟩
      cases hr
      refine zH_run (t_none _) [(.i2l, 0, 0)] (9, [some (zr (some (0, 0))), some (zi v1), some (zi v2), some (zr (some (106, 380))), none], [zl a.toInt64, zi 0, zr (some (106, 380))], h1) (by decide +kernel) rfl ?_
      refine zV_st (zS_ast (h' := zsL h1 380 0 a.toInt64) rfl (by decide +kernel) (by decide +kernel) rfl) (zle.same rfl) ?_
      refine zH_run (t_none _) [(.goto 7, 0, 0), (.iconst 0, 0, 0)] (18, [some (zr (some (0, 0))), some (zi v1), some (zi v2), some (zr (some (106, 380))), none], [zi 0], zsL h1 380 0 a.toInt64) (by decide +kernel) rfl ?_
      exact zV_ret (g := (true, 2)) (r := some (zi 0)) (zrd_i rfl (by decide +kernel)) rfl
    · dsimp only [Option.bind_some, Sum.elim_inr] at hx
      split at hx
      · rename_i hk
        cases hx
        subst hk
        exact zV_catch (g' := (true, 2)) (bc := 0) (bs := 0) (mc := 2) (ms := 12) (idx := 33) (as := [zi v1, zi v2]) (rest := [zi 0, zr (some (106, 380))]) (n := 2) (k := 1) (pre := []) (suf := []) (a := 0) (b := 10) (hp := 13) (t := 18) (w := 2) (slot := 4) (z := 1) (by decide +kernel) (c_Main_row hl he) ⟨ok_Main_row, by decide, by decide +kernel⟩ rfl wk_28 wk_29 wk_30 (by decide) rfl rfl rfl (Nat.le_of_ble_eq_true rfl) rfl (Or.inl rfl) (by decide) (by decide) wk_10 (Or.inl rfl) (Or.inl ⟨rfl, by decide +kernel⟩) (by decide) rfl (by decide +kernel) (by decide +kernel) rfl rfl (Or.inl rfl)
      · cases hx
def m_L_cube : zM := (({ cls := "ScanPackerLaw", name := "cube", desc := "(LScanPacker;II[J)I" } : Jvm.MethodName), method_10_code, 5, (Option.some Jvm.ClassFile.FieldType.int), [(0, 10, 13, 18)], 8)
theorem ok_L_cube : zMok m_L_cube := ⟨by decide +kernel, wk_31, wk_1, by decide, by decide +kernel, by decide +kernel⟩
theorem c_L_cube {l : Launch} {X : zX} (hl : l.stackTraces = false) {h : zH} {v1 : Int32} {v2 : Int32} {x : Int32 × zH} (hx : f_L_cube h v1 v2 = some x) : zCt l (true, 2) 2 m_L_cube X 2 12 [zr (some (0, 0)), zi v1, zi v2, zr (some (106, 380))] h (.inl (some (zi x.1)), x.2) := by
  refine zCt_of ok_L_cube hl (Nat.le_of_ble_eq_true rfl) ?_
  refine zV_eq (c := (0, [some (zr (some (0, 0))), some (zi v1), some (zi v2), some (zr (some (106, 380))), none], [], h)) rfl ?_
  refine zH_run (t_none _) [(.aload_n 3, 0, 0), (.iconst 0, 0, 0), (.aload_n 0, 0, 0), (.iload_n 1, 0, 0), (.iload_n 2, 0, 0)] (5, [some (zr (some (0, 0))), some (zi v1), some (zi v2), some (zr (some (106, 380))), none], [zi v2, zi v1, zr (some (0, 0)), zi 0, zr (some (106, 380))], h) (by decide +kernel) rfl ?_
  unfold f_L_cube at hx
  cases he : f_Main_cube h v1 v2 with
  | none => rw [he] at hx; cases hx
  | some y =>
    rw [he] at hx
    rcases y with ⟨a, h1⟩ | ⟨k, h1⟩
    · cases hx
      refine zV_callV (g' := (true, 2)) (bc := 0) (bs := 0) (mc := 2) (ms := 12) (idx := 36) (as := [zi v1, zi v2]) (rest := [zi 0, zr (some (106, 380))]) (n := 2) (f := (.inl (some (zi a)), h1)) (by decide +kernel) (c_Main_cube hl he) ⟨ok_Main_cube, by decide, by decide +kernel⟩ rfl wk_32 wk_33 wk_34 (by decide) rfl rfl rfl (Nat.le_of_ble_eq_true rfl) (Or.inl rfl) ⟨fun r hr _ => ?_, fun k hk => by cases hk⟩
      cases hr
      refine zH_run (t_none _) [(.i2l, 0, 0)] (9, [some (zr (some (0, 0))), some (zi v1), some (zi v2), some (zr (some (106, 380))), none], [zl a.toInt64, zi 0, zr (some (106, 380))], h1) (by decide +kernel) rfl ?_
      refine zV_st (zS_ast (h' := zsL h1 380 0 a.toInt64) rfl (by decide +kernel) (by decide +kernel) rfl) (zle.same rfl) ?_
      refine zH_run (t_none _) [(.goto 7, 0, 0), (.iconst 0, 0, 0)] (18, [some (zr (some (0, 0))), some (zi v1), some (zi v2), some (zr (some (106, 380))), none], [zi 0], zsL h1 380 0 a.toInt64) (by decide +kernel) rfl ?_
      exact zV_ret (g := (true, 2)) (r := some (zi 0)) (zrd_i rfl (by decide +kernel)) rfl
    · dsimp only [Option.bind_some, Sum.elim_inr] at hx
      split at hx
      · rename_i hk
        cases hx
        subst hk
        exact zV_catch (g' := (true, 2)) (bc := 0) (bs := 0) (mc := 2) (ms := 12) (idx := 36) (as := [zi v1, zi v2]) (rest := [zi 0, zr (some (106, 380))]) (n := 2) (k := 1) (pre := []) (suf := []) (a := 0) (b := 10) (hp := 13) (t := 18) (w := 2) (slot := 4) (z := 1) (by decide +kernel) (c_Main_cube hl he) ⟨ok_Main_cube, by decide, by decide +kernel⟩ rfl wk_32 wk_33 wk_34 (by decide) rfl rfl rfl (Nat.le_of_ble_eq_true rfl) rfl (Or.inl rfl) (by decide) (by decide) wk_10 (Or.inl rfl) (Or.inl ⟨rfl, by decide +kernel⟩) (by decide) rfl (by decide +kernel) (by decide +kernel) rfl rfl (Or.inl rfl)
      · cases hx
def m_L_by : zM := (({ cls := "ScanPackerLaw", name := "by", desc := "(LScanPacker;III[J)I" } : Jvm.MethodName), method_11_code, 6, (Option.some Jvm.ClassFile.FieldType.int), [(0, 12, 15, 18), (0, 12, 19, 13)], 8)
theorem ok_L_by : zMok m_L_by := ⟨by decide +kernel, wk_35, wk_1, by decide, by decide +kernel, by decide +kernel⟩
theorem c_L_by {l : Launch} {X : zX} (hl : l.stackTraces = false) {h : zH} {v1 : Int32} {v2 : Int32} {v3 : Int32} {x : Int32 × zH} (hx : f_L_by h v1 v2 v3 = some x) : zCt l (true, 2) 2 m_L_by X 3 18 [zr (some (0, 0)), zi v1, zi v2, zi v3, zr (some (106, 380))] h (.inl (some (zi x.1)), x.2) := by
  refine zCt_of ok_L_by hl (Nat.le_of_ble_eq_true rfl) ?_
  refine zV_eq (c := (0, [some (zr (some (0, 0))), some (zi v1), some (zi v2), some (zi v3), some (zr (some (106, 380))), none], [], h)) rfl ?_
  refine zH_run (t_none _) [(.aload 4, 0, 0), (.iconst 0, 0, 0), (.aload_n 0, 0, 0), (.iload_n 1, 0, 0), (.iload_n 2, 0, 0), (.iload_n 3, 0, 0)] (7, [some (zr (some (0, 0))), some (zi v1), some (zi v2), some (zi v3), some (zr (some (106, 380))), none], [zi v3, zi v2, zi v1, zr (some (0, 0)), zi 0, zr (some (106, 380))], h) (by decide +kernel) rfl ?_
  unfold f_L_by at hx
  cases he : f_Main_by h v1 v2 v3 with
  | none => rw [he] at hx; cases hx
  | some y =>
    rw [he] at hx
    rcases y with ⟨a, h1⟩ | ⟨k, h1⟩
    · cases hx
      refine zV_callV (g' := (true, 2)) (bc := 0) (bs := 0) (mc := 3) (ms := 18) (idx := 39) (as := [zi v1, zi v2, zi v3]) (rest := [zi 0, zr (some (106, 380))]) (n := 3) (f := (.inl (some (zi a)), h1)) (by decide +kernel) (c_Main_by hl he) ⟨ok_Main_by, by decide, by decide +kernel⟩ rfl wk_36 wk_37 wk_38 (by decide) rfl rfl rfl (Nat.le_of_ble_eq_true rfl) (Or.inl rfl) ⟨fun r hr _ => ?_, fun k hk => by cases hk⟩
      cases hr
      refine zH_run (t_none _) [(.i2l, 0, 0)] (11, [some (zr (some (0, 0))), some (zi v1), some (zi v2), some (zi v3), some (zr (some (106, 380))), none], [zl a.toInt64, zi 0, zr (some (106, 380))], h1) (by decide +kernel) rfl ?_
      refine zV_st (zS_ast (h' := zsL h1 380 0 a.toInt64) rfl (by decide +kernel) (by decide +kernel) rfl) (zle.same rfl) ?_
      refine zH_run (t_none _) [(.goto 11, 0, 0), (.iconst 0, 0, 0)] (24, [some (zr (some (0, 0))), some (zi v1), some (zi v2), some (zi v3), some (zr (some (106, 380))), none], [zi 0], zsL h1 380 0 a.toInt64) (by decide +kernel) rfl ?_
      exact zV_ret (g := (true, 2)) (r := some (zi 0)) (zrd_i rfl (by decide +kernel)) rfl
    · dsimp only [Option.bind_some, Sum.elim_inr] at hx
      split at hx
      · rename_i hk
        cases hx
        subst hk
        exact zV_catch (g' := (true, 2)) (bc := 0) (bs := 0) (mc := 3) (ms := 18) (idx := 39) (as := [zi v1, zi v2, zi v3]) (rest := [zi 0, zr (some (106, 380))]) (n := 3) (k := 1) (pre := []) (suf := [(0, 12, 19, 13)]) (a := 0) (b := 12) (hp := 15) (t := 18) (w := 2) (slot := 5) (z := 1) (by decide +kernel) (c_Main_by hl he) ⟨ok_Main_by, by decide, by decide +kernel⟩ rfl wk_36 wk_37 wk_38 (by decide) rfl rfl rfl (Nat.le_of_ble_eq_true rfl) rfl (Or.inl rfl) (by decide) (by decide) wk_10 (Or.inl rfl) (Or.inl ⟨rfl, by decide +kernel⟩) (by decide) rfl (by decide +kernel) (by decide +kernel) rfl rfl (Or.inl rfl)
      · split at hx
        · rename_i hk
          cases hx
          subst hk
          exact zV_catch (g' := (true, 2)) (bc := 0) (bs := 0) (mc := 3) (ms := 18) (idx := 39) (as := [zi v1, zi v2, zi v3]) (rest := [zi 0, zr (some (106, 380))]) (n := 3) (k := 2) (pre := [(0, 12, 15, 18)]) (suf := []) (a := 0) (b := 12) (hp := 19) (t := 13) (w := 2) (slot := 5) (z := 2) (by decide +kernel) (c_Main_by hl he) ⟨ok_Main_by, by decide, by decide +kernel⟩ rfl wk_36 wk_37 wk_38 (by decide) rfl rfl rfl (Nat.le_of_ble_eq_true rfl) rfl (Or.inr ⟨rfl, fun z hz => by rw [List.mem_singleton.mp hz]; exact ⟨by decide, wk_10⟩⟩) (by decide) (by decide) wk_5 (Or.inr rfl) (Or.inl ⟨rfl, by decide +kernel⟩) (by decide) rfl (by decide +kernel) (by decide +kernel) rfl rfl (Or.inl rfl)
        · cases hx
def m_L_program : zM := (({ cls := "ScanPackerLaw", name := "program", desc := "(LScanPacker;II[J)I" } : Jvm.MethodName), method_12_code, 5, (Option.some Jvm.ClassFile.FieldType.int), [(0, 10, 13, 18)], 8)
theorem ok_L_program : zMok m_L_program := ⟨by decide +kernel, wk_39, wk_1, by decide, by decide +kernel, by decide +kernel⟩
theorem c_L_program {l : Launch} {X : zX} (hl : l.stackTraces = false) {h : zH} {v1 : Int32} {v2 : Int32} {x : Int32 × zH} (hx : f_L_program h v1 v2 = some x) : zCt l (true, 2) 2 m_L_program X 1 6 [zr (some (0, 0)), zi v1, zi v2, zr (some (106, 380))] h (.inl (some (zi x.1)), x.2) := by
  refine zCt_of ok_L_program hl (Nat.le_of_ble_eq_true rfl) ?_
  refine zV_eq (c := (0, [some (zr (some (0, 0))), some (zi v1), some (zi v2), some (zr (some (106, 380))), none], [], h)) rfl ?_
  refine zH_run (t_none _) [(.aload_n 3, 0, 0), (.iconst 0, 0, 0), (.aload_n 0, 0, 0), (.iload_n 1, 0, 0), (.iload_n 2, 0, 0)] (5, [some (zr (some (0, 0))), some (zi v1), some (zi v2), some (zr (some (106, 380))), none], [zi v2, zi v1, zr (some (0, 0)), zi 0, zr (some (106, 380))], h) (by decide +kernel) rfl ?_
  unfold f_L_program at hx
  cases he : f_Main_program h v1 v2 with
  | none => rw [he] at hx; cases hx
  | some y =>
    rw [he] at hx
    rcases y with ⟨a, h1⟩ | ⟨k, h1⟩
    · cases hx
      refine zV_callV (g' := (true, 2)) (bc := 0) (bs := 0) (mc := 1) (ms := 6) (idx := 43) (as := [zi v1, zi v2]) (rest := [zi 0, zr (some (106, 380))]) (n := 2) (f := (.inl (some (zi a)), h1)) (by decide +kernel) (c_Main_program hl he) ⟨ok_Main_program, by decide, by decide +kernel⟩ rfl wk_40 wk_41 wk_42 (by decide) rfl rfl rfl (Nat.le_of_ble_eq_true rfl) (Or.inl rfl) ⟨fun r hr _ => ?_, fun k hk => by cases hk⟩
      cases hr
      refine zH_run (t_none _) [(.i2l, 0, 0)] (9, [some (zr (some (0, 0))), some (zi v1), some (zi v2), some (zr (some (106, 380))), none], [zl a.toInt64, zi 0, zr (some (106, 380))], h1) (by decide +kernel) rfl ?_
      refine zV_st (zS_ast (h' := zsL h1 380 0 a.toInt64) rfl (by decide +kernel) (by decide +kernel) rfl) (zle.same rfl) ?_
      refine zH_run (t_none _) [(.goto 7, 0, 0), (.iconst 0, 0, 0)] (18, [some (zr (some (0, 0))), some (zi v1), some (zi v2), some (zr (some (106, 380))), none], [zi 0], zsL h1 380 0 a.toInt64) (by decide +kernel) rfl ?_
      exact zV_ret (g := (true, 2)) (r := some (zi 0)) (zrd_i rfl (by decide +kernel)) rfl
    · dsimp only [Option.bind_some, Sum.elim_inr] at hx
      split at hx
      · rename_i hk
        cases hx
        subst hk
        exact zV_catch (g' := (true, 2)) (bc := 0) (bs := 0) (mc := 1) (ms := 6) (idx := 43) (as := [zi v1, zi v2]) (rest := [zi 0, zr (some (106, 380))]) (n := 2) (k := 1) (pre := []) (suf := []) (a := 0) (b := 10) (hp := 13) (t := 18) (w := 2) (slot := 4) (z := 1) (by decide +kernel) (c_Main_program hl he) ⟨ok_Main_program, by decide, by decide +kernel⟩ rfl wk_40 wk_41 wk_42 (by decide) rfl rfl rfl (Nat.le_of_ble_eq_true rfl) rfl (Or.inl rfl) (by decide) (by decide) wk_10 (Or.inl rfl) (Or.inl ⟨rfl, by decide +kernel⟩) (by decide) rfl (by decide +kernel) (by decide +kernel) rfl rfl (Or.inl rfl)
      · cases hx
def m_L_order : zM := (({ cls := "ScanPackerLaw", name := "order", desc := "(LScanPacker;II[J)I" } : Jvm.MethodName), method_13_code, 5, (Option.some Jvm.ClassFile.FieldType.int), [(0, 10, 13, 18)], 8)
theorem ok_L_order : zMok m_L_order := ⟨by decide +kernel, wk_43, wk_1, by decide, by decide +kernel, by decide +kernel⟩
theorem c_L_order {l : Launch} {X : zX} (hl : l.stackTraces = false) {h : zH} {v1 : Int32} {v2 : Int32} {x : Int32 × zH} (hx : f_L_order h v1 v2 = some x) : zCt l (true, 2) 2 m_L_order X 1 6 [zr (some (0, 0)), zi v1, zi v2, zr (some (106, 380))] h (.inl (some (zi x.1)), x.2) := by
  refine zCt_of ok_L_order hl (Nat.le_of_ble_eq_true rfl) ?_
  refine zV_eq (c := (0, [some (zr (some (0, 0))), some (zi v1), some (zi v2), some (zr (some (106, 380))), none], [], h)) rfl ?_
  refine zH_run (t_none _) [(.aload_n 3, 0, 0), (.iconst 0, 0, 0), (.aload_n 0, 0, 0), (.iload_n 1, 0, 0), (.iload_n 2, 0, 0)] (5, [some (zr (some (0, 0))), some (zi v1), some (zi v2), some (zr (some (106, 380))), none], [zi v2, zi v1, zr (some (0, 0)), zi 0, zr (some (106, 380))], h) (by decide +kernel) rfl ?_
  unfold f_L_order at hx
  cases he : f_Main_order h v1 v2 with
  | none => rw [he] at hx; cases hx
  | some y =>
    rw [he] at hx
    rcases y with ⟨a, h1⟩ | ⟨k, h1⟩
    · cases hx
      refine zV_callV (g' := (true, 2)) (bc := 0) (bs := 0) (mc := 1) (ms := 6) (idx := 46) (as := [zi v1, zi v2]) (rest := [zi 0, zr (some (106, 380))]) (n := 2) (f := (.inl (some (zi a)), h1)) (by decide +kernel) (c_Main_order hl he) ⟨ok_Main_order, by decide, by decide +kernel⟩ rfl wk_44 wk_45 wk_46 (by decide) rfl rfl rfl (Nat.le_of_ble_eq_true rfl) (Or.inl rfl) ⟨fun r hr _ => ?_, fun k hk => by cases hk⟩
      cases hr
      refine zH_run (t_none _) [(.i2l, 0, 0)] (9, [some (zr (some (0, 0))), some (zi v1), some (zi v2), some (zr (some (106, 380))), none], [zl a.toInt64, zi 0, zr (some (106, 380))], h1) (by decide +kernel) rfl ?_
      refine zV_st (zS_ast (h' := zsL h1 380 0 a.toInt64) rfl (by decide +kernel) (by decide +kernel) rfl) (zle.same rfl) ?_
      refine zH_run (t_none _) [(.goto 7, 0, 0), (.iconst 0, 0, 0)] (18, [some (zr (some (0, 0))), some (zi v1), some (zi v2), some (zr (some (106, 380))), none], [zi 0], zsL h1 380 0 a.toInt64) (by decide +kernel) rfl ?_
      exact zV_ret (g := (true, 2)) (r := some (zi 0)) (zrd_i rfl (by decide +kernel)) rfl
    · dsimp only [Option.bind_some, Sum.elim_inr] at hx
      split at hx
      · rename_i hk
        cases hx
        subst hk
        exact zV_catch (g' := (true, 2)) (bc := 0) (bs := 0) (mc := 1) (ms := 6) (idx := 46) (as := [zi v1, zi v2]) (rest := [zi 0, zr (some (106, 380))]) (n := 2) (k := 1) (pre := []) (suf := []) (a := 0) (b := 10) (hp := 13) (t := 18) (w := 2) (slot := 4) (z := 1) (by decide +kernel) (c_Main_order hl he) ⟨ok_Main_order, by decide, by decide +kernel⟩ rfl wk_44 wk_45 wk_46 (by decide) rfl rfl rfl (Nat.le_of_ble_eq_true rfl) rfl (Or.inl rfl) (by decide) (by decide) wk_10 (Or.inl rfl) (Or.inl ⟨rfl, by decide +kernel⟩) (by decide) rfl (by decide +kernel) (by decide +kernel) rfl rfl (Or.inl rfl)
      · cases hx
def m_L_pack : zM := (({ cls := "ScanPackerLaw", name := "pack", desc := "(LScanPacker;I[J)I" } : Jvm.MethodName), method_14_code, 4, (Option.some Jvm.ClassFile.FieldType.int), [(0, 9, 12, 18)], 7)
theorem ok_L_pack : zMok m_L_pack := ⟨by decide +kernel, wk_47, wk_1, by decide, by decide +kernel, by decide +kernel⟩
theorem c_L_pack {l : Launch} {X : zX} (hl : l.stackTraces = false) {h : zH} {v1 : Int32} {x : Int32 × zH} (hx : f_L_pack h v1 = some x) : zCt l (true, 2) 2 m_L_pack X 1 6 [zr (some (0, 0)), zi v1, zr (some (106, 380))] h (.inl (some (zi x.1)), x.2) := by
  refine zCt_of ok_L_pack hl (Nat.le_of_ble_eq_true rfl) ?_
  refine zV_eq (c := (0, [some (zr (some (0, 0))), some (zi v1), some (zr (some (106, 380))), none], [], h)) rfl ?_
  refine zH_run (t_none _) [(.aload_n 2, 0, 0), (.iconst 0, 0, 0), (.aload_n 0, 0, 0), (.iload_n 1, 0, 0)] (4, [some (zr (some (0, 0))), some (zi v1), some (zr (some (106, 380))), none], [zi v1, zr (some (0, 0)), zi 0, zr (some (106, 380))], h) (by decide +kernel) rfl ?_
  unfold f_L_pack at hx
  cases he : f_Main_pack h v1 with
  | none => rw [he] at hx; cases hx
  | some y =>
    rw [he] at hx
    rcases y with ⟨a, h1⟩ | ⟨k, h1⟩
    · cases hx
      refine zV_callV (g' := (true, 2)) (bc := 0) (bs := 0) (mc := 1) (ms := 6) (idx := 49) (as := [zi v1]) (rest := [zi 0, zr (some (106, 380))]) (n := 1) (f := (.inl (some (zi a)), h1)) (by decide +kernel) (c_Main_pack hl he) ⟨ok_Main_pack, by decide, by decide +kernel⟩ rfl wk_48 wk_49 wk_50 (by decide) rfl rfl rfl (Nat.le_of_ble_eq_true rfl) (Or.inl rfl) ⟨fun r hr _ => ?_, fun k hk => by cases hk⟩
      cases hr
      refine zH_run (t_none _) [(.i2l, 0, 0)] (8, [some (zr (some (0, 0))), some (zi v1), some (zr (some (106, 380))), none], [zl a.toInt64, zi 0, zr (some (106, 380))], h1) (by decide +kernel) rfl ?_
      refine zV_st (zS_ast (h' := zsL h1 380 0 a.toInt64) rfl (by decide +kernel) (by decide +kernel) rfl) (zle.same rfl) ?_
      refine zH_run (t_none _) [(.goto 6, 0, 0), (.iconst 0, 0, 0)] (16, [some (zr (some (0, 0))), some (zi v1), some (zr (some (106, 380))), none], [zi 0], zsL h1 380 0 a.toInt64) (by decide +kernel) rfl ?_
      exact zV_ret (g := (true, 2)) (r := some (zi 0)) (zrd_i rfl (by decide +kernel)) rfl
    · dsimp only [Option.bind_some, Sum.elim_inr] at hx
      split at hx
      · rename_i hk
        cases hx
        subst hk
        exact zV_catch (g' := (true, 2)) (bc := 0) (bs := 0) (mc := 1) (ms := 6) (idx := 49) (as := [zi v1]) (rest := [zi 0, zr (some (106, 380))]) (n := 1) (k := 1) (pre := []) (suf := []) (a := 0) (b := 9) (hp := 12) (t := 18) (w := 1) (slot := 3) (z := 1) (by decide +kernel) (c_Main_pack hl he) ⟨ok_Main_pack, by decide, by decide +kernel⟩ rfl wk_48 wk_49 wk_50 (by decide) rfl rfl rfl (Nat.le_of_ble_eq_true rfl) rfl (Or.inl rfl) (by decide) (by decide) wk_10 (Or.inl rfl) (Or.inr ⟨rfl, 3, rfl, by decide +kernel⟩) (by decide) rfl (by decide +kernel) (by decide +kernel) rfl rfl (Or.inl rfl)
      · cases hx
def m_L_defect : zM := (({ cls := "ScanPackerLaw", name := "defect", desc := "(LScanPacker;I[J)I" } : Jvm.MethodName), method_15_code, 4, (Option.some Jvm.ClassFile.FieldType.int), [(0, 9, 12, 18)], 8)
theorem ok_L_defect : zMok m_L_defect := ⟨by decide +kernel, wk_51, wk_1, by decide, by decide +kernel, by decide +kernel⟩
theorem c_L_defect {l : Launch} {X : zX} (hl : l.stackTraces = false) {h : zH} {v1 : Int32} {x : Int32 × zH} (hx : f_L_defect h v1 = some x) : zCt l (true, 2) 2 m_L_defect X 1 6 [zr (some (0, 0)), zi v1, zr (some (106, 380))] h (.inl (some (zi x.1)), x.2) := by
  refine zCt_of ok_L_defect hl (Nat.le_of_ble_eq_true rfl) ?_
  refine zV_eq (c := (0, [some (zr (some (0, 0))), some (zi v1), some (zr (some (106, 380))), none], [], h)) rfl ?_
  refine zH_run (t_none _) [(.aload_n 2, 0, 0), (.iconst 0, 0, 0), (.aload_n 0, 0, 0), (.iload_n 1, 0, 0)] (4, [some (zr (some (0, 0))), some (zi v1), some (zr (some (106, 380))), none], [zi v1, zr (some (0, 0)), zi 0, zr (some (106, 380))], h) (by decide +kernel) rfl ?_
  unfold f_L_defect at hx
  cases he : f_Main_defect h v1 with
  | none => rw [he] at hx; cases hx
  | some y =>
    rw [he] at hx
    rcases y with ⟨a, h1⟩ | ⟨k, h1⟩
    · cases hx
      refine zV_callV (g' := (true, 2)) (bc := 0) (bs := 0) (mc := 1) (ms := 6) (idx := 52) (as := [zi v1]) (rest := [zi 0, zr (some (106, 380))]) (n := 1) (f := (.inl (some (zi a)), h1)) (by decide +kernel) (c_Main_defect hl he) ⟨ok_Main_defect, by decide, by decide +kernel⟩ rfl wk_52 wk_53 wk_54 (by decide) rfl rfl rfl (Nat.le_of_ble_eq_true rfl) (Or.inl rfl) ⟨fun r hr _ => ?_, fun k hk => by cases hk⟩
      cases hr
      refine zH_run (t_none _) [(.i2l, 0, 0)] (8, [some (zr (some (0, 0))), some (zi v1), some (zr (some (106, 380))), none], [zl a.toInt64, zi 0, zr (some (106, 380))], h1) (by decide +kernel) rfl ?_
      refine zV_st (zS_ast (h' := zsL h1 380 0 a.toInt64) rfl (by decide +kernel) (by decide +kernel) rfl) (zle.same rfl) ?_
      refine zH_run (t_none _) [(.goto 6, 0, 0), (.iconst 0, 0, 0)] (16, [some (zr (some (0, 0))), some (zi v1), some (zr (some (106, 380))), none], [zi 0], zsL h1 380 0 a.toInt64) (by decide +kernel) rfl ?_
      exact zV_ret (g := (true, 2)) (r := some (zi 0)) (zrd_i rfl (by decide +kernel)) rfl
    · dsimp only [Option.bind_some, Sum.elim_inr] at hx
      split at hx
      · rename_i hk
        cases hx
        subst hk
        exact zV_catch (g' := (true, 2)) (bc := 0) (bs := 0) (mc := 1) (ms := 6) (idx := 52) (as := [zi v1]) (rest := [zi 0, zr (some (106, 380))]) (n := 1) (k := 1) (pre := []) (suf := []) (a := 0) (b := 9) (hp := 12) (t := 18) (w := 1) (slot := 3) (z := 1) (by decide +kernel) (c_Main_defect hl he) ⟨ok_Main_defect, by decide, by decide +kernel⟩ rfl wk_52 wk_53 wk_54 (by decide) rfl rfl rfl (Nat.le_of_ble_eq_true rfl) rfl (Or.inl rfl) (by decide) (by decide) wk_10 (Or.inl rfl) (Or.inr ⟨rfl, 3, rfl, by decide +kernel⟩) (by decide) rfl (by decide +kernel) (by decide +kernel) rfl rfl (Or.inl rfl)
      · cases hx
def m_L_fits : zM := (({ cls := "ScanPackerLaw", name := "fits", desc := "(LScanPacker;I[J)I" } : Jvm.MethodName), method_16_code, 4, (Option.some Jvm.ClassFile.FieldType.int), [(0, 9, 12, 18)], 7)
theorem ok_L_fits : zMok m_L_fits := ⟨by decide +kernel, wk_55, wk_1, by decide, by decide +kernel, by decide +kernel⟩
theorem c_L_fits {l : Launch} {X : zX} (hl : l.stackTraces = false) {h : zH} {v1 : Int32} {x : Int32 × zH} (hx : f_L_fits h v1 = some x) : zCt l (true, 2) 2 m_L_fits X 1 6 [zr (some (0, 0)), zi v1, zr (some (106, 380))] h (.inl (some (zi x.1)), x.2) := by
  refine zCt_of ok_L_fits hl (Nat.le_of_ble_eq_true rfl) ?_
  refine zV_eq (c := (0, [some (zr (some (0, 0))), some (zi v1), some (zr (some (106, 380))), none], [], h)) rfl ?_
  refine zH_run (t_none _) [(.aload_n 2, 0, 0), (.iconst 0, 0, 0), (.aload_n 0, 0, 0), (.iload_n 1, 0, 0)] (4, [some (zr (some (0, 0))), some (zi v1), some (zr (some (106, 380))), none], [zi v1, zr (some (0, 0)), zi 0, zr (some (106, 380))], h) (by decide +kernel) rfl ?_
  unfold f_L_fits at hx
  cases he : f_Main_fits h v1 with
  | none => rw [he] at hx; cases hx
  | some y =>
    rw [he] at hx
    rcases y with ⟨a, h1⟩ | ⟨k, h1⟩
    · cases hx
      refine zV_callV (g' := (true, 2)) (bc := 0) (bs := 0) (mc := 1) (ms := 6) (idx := 55) (as := [zi v1]) (rest := [zi 0, zr (some (106, 380))]) (n := 1) (f := (.inl (some (zi a)), h1)) (by decide +kernel) (c_Main_fits hl he) ⟨ok_Main_fits, by decide, by decide +kernel⟩ rfl wk_56 wk_57 wk_58 (by decide) rfl rfl rfl (Nat.le_of_ble_eq_true rfl) (Or.inl rfl) ⟨fun r hr _ => ?_, fun k hk => by cases hk⟩
      cases hr
      refine zH_run (t_none _) [(.i2l, 0, 0)] (8, [some (zr (some (0, 0))), some (zi v1), some (zr (some (106, 380))), none], [zl a.toInt64, zi 0, zr (some (106, 380))], h1) (by decide +kernel) rfl ?_
      refine zV_st (zS_ast (h' := zsL h1 380 0 a.toInt64) rfl (by decide +kernel) (by decide +kernel) rfl) (zle.same rfl) ?_
      refine zH_run (t_none _) [(.goto 6, 0, 0), (.iconst 0, 0, 0)] (16, [some (zr (some (0, 0))), some (zi v1), some (zr (some (106, 380))), none], [zi 0], zsL h1 380 0 a.toInt64) (by decide +kernel) rfl ?_
      exact zV_ret (g := (true, 2)) (r := some (zi 0)) (zrd_i rfl (by decide +kernel)) rfl
    · dsimp only [Option.bind_some, Sum.elim_inr] at hx
      split at hx
      · rename_i hk
        cases hx
        subst hk
        exact zV_catch (g' := (true, 2)) (bc := 0) (bs := 0) (mc := 1) (ms := 6) (idx := 55) (as := [zi v1]) (rest := [zi 0, zr (some (106, 380))]) (n := 1) (k := 1) (pre := []) (suf := []) (a := 0) (b := 9) (hp := 12) (t := 18) (w := 1) (slot := 3) (z := 1) (by decide +kernel) (c_Main_fits hl he) ⟨ok_Main_fits, by decide, by decide +kernel⟩ rfl wk_56 wk_57 wk_58 (by decide) rfl rfl rfl (Nat.le_of_ble_eq_true rfl) rfl (Or.inl rfl) (by decide) (by decide) wk_10 (Or.inl rfl) (Or.inr ⟨rfl, 3, rfl, by decide +kernel⟩) (by decide) rfl (by decide +kernel) (by decide +kernel) rfl rfl (Or.inl rfl)
      · cases hx
def m_L_look : zM := (({ cls := "ScanPackerLaw", name := "look", desc := "(LScanPacker;I[J)I" } : Jvm.MethodName), method_17_code, 4, (Option.some Jvm.ClassFile.FieldType.int), [(0, 9, 12, 18)], 7)
theorem ok_L_look : zMok m_L_look := ⟨by decide +kernel, wk_59, wk_1, by decide, by decide +kernel, by decide +kernel⟩
theorem c_L_look {l : Launch} {X : zX} (hl : l.stackTraces = false) {h : zH} {v1 : Int32} {x : Int32 × zH} (hx : f_L_look h v1 = some x) : zCt l (true, 2) 2 m_L_look X 1 6 [zr (some (0, 0)), zi v1, zr (some (106, 380))] h (.inl (some (zi x.1)), x.2) := by
  refine zCt_of ok_L_look hl (Nat.le_of_ble_eq_true rfl) ?_
  refine zV_eq (c := (0, [some (zr (some (0, 0))), some (zi v1), some (zr (some (106, 380))), none], [], h)) rfl ?_
  refine zH_run (t_none _) [(.aload_n 2, 0, 0), (.iconst 0, 0, 0), (.aload_n 0, 0, 0), (.iload_n 1, 0, 0)] (4, [some (zr (some (0, 0))), some (zi v1), some (zr (some (106, 380))), none], [zi v1, zr (some (0, 0)), zi 0, zr (some (106, 380))], h) (by decide +kernel) rfl ?_
  unfold f_L_look at hx
  cases he : f_Main_look h v1 with
  | none => rw [he] at hx; cases hx
  | some y =>
    rw [he] at hx
    rcases y with ⟨a, h1⟩ | ⟨k, h1⟩
    · cases hx
      refine zV_callV (g' := (true, 2)) (bc := 0) (bs := 0) (mc := 1) (ms := 6) (idx := 58) (as := [zi v1]) (rest := [zi 0, zr (some (106, 380))]) (n := 1) (f := (.inl (some (zi a)), h1)) (by decide +kernel) (c_Main_look hl he) ⟨ok_Main_look, by decide, by decide +kernel⟩ rfl wk_60 wk_61 wk_62 (by decide) rfl rfl rfl (Nat.le_of_ble_eq_true rfl) (Or.inl rfl) ⟨fun r hr _ => ?_, fun k hk => by cases hk⟩
      cases hr
      refine zH_run (t_none _) [(.i2l, 0, 0)] (8, [some (zr (some (0, 0))), some (zi v1), some (zr (some (106, 380))), none], [zl a.toInt64, zi 0, zr (some (106, 380))], h1) (by decide +kernel) rfl ?_
      refine zV_st (zS_ast (h' := zsL h1 380 0 a.toInt64) rfl (by decide +kernel) (by decide +kernel) rfl) (zle.same rfl) ?_
      refine zH_run (t_none _) [(.goto 6, 0, 0), (.iconst 0, 0, 0)] (16, [some (zr (some (0, 0))), some (zi v1), some (zr (some (106, 380))), none], [zi 0], zsL h1 380 0 a.toInt64) (by decide +kernel) rfl ?_
      exact zV_ret (g := (true, 2)) (r := some (zi 0)) (zrd_i rfl (by decide +kernel)) rfl
    · dsimp only [Option.bind_some, Sum.elim_inr] at hx
      split at hx
      · rename_i hk
        cases hx
        subst hk
        exact zV_catch (g' := (true, 2)) (bc := 0) (bs := 0) (mc := 1) (ms := 6) (idx := 58) (as := [zi v1]) (rest := [zi 0, zr (some (106, 380))]) (n := 1) (k := 1) (pre := []) (suf := []) (a := 0) (b := 9) (hp := 12) (t := 18) (w := 1) (slot := 3) (z := 1) (by decide +kernel) (c_Main_look hl he) ⟨ok_Main_look, by decide, by decide +kernel⟩ rfl wk_60 wk_61 wk_62 (by decide) rfl rfl rfl (Nat.le_of_ble_eq_true rfl) rfl (Or.inl rfl) (by decide) (by decide) wk_10 (Or.inl rfl) (Or.inr ⟨rfl, 3, rfl, by decide +kernel⟩) (by decide) rfl (by decide +kernel) (by decide +kernel) rfl rfl (Or.inl rfl)
      · cases hx
def m_L_behind : zM := (({ cls := "ScanPackerLaw", name := "behind", desc := "(LScanPacker;I[J)I" } : Jvm.MethodName), method_18_code, 4, (Option.some Jvm.ClassFile.FieldType.int), [(0, 9, 12, 13)], 7)
theorem ok_L_behind : zMok m_L_behind := ⟨by decide +kernel, wk_63, wk_1, by decide, by decide +kernel, by decide +kernel⟩
theorem c_L_behind {l : Launch} {X : zX} (hl : l.stackTraces = false) {h : zH} {v1 : Int32} {x : Int32 × zH} (hx : f_L_behind h v1 = some x) : zCt l (true, 2) 2 m_L_behind X 1 6 [zr (some (0, 0)), zi v1, zr (some (106, 380))] h (.inl (some (zi x.1)), x.2) := by
  refine zCt_of ok_L_behind hl (Nat.le_of_ble_eq_true rfl) ?_
  refine zV_eq (c := (0, [some (zr (some (0, 0))), some (zi v1), some (zr (some (106, 380))), none], [], h)) rfl ?_
  refine zH_run (t_none _) [(.aload_n 2, 0, 0), (.iconst 0, 0, 0), (.aload_n 0, 0, 0), (.iload_n 1, 0, 0)] (4, [some (zr (some (0, 0))), some (zi v1), some (zr (some (106, 380))), none], [zi v1, zr (some (0, 0)), zi 0, zr (some (106, 380))], h) (by decide +kernel) rfl ?_
  unfold f_L_behind at hx
  cases he : f_Main_behind h v1 with
  | none => rw [he] at hx; cases hx
  | some y =>
    rw [he] at hx
    rcases y with ⟨a, h1⟩ | ⟨k, h1⟩
    · cases hx
      refine zV_callV (g' := (true, 2)) (bc := 0) (bs := 0) (mc := 1) (ms := 6) (idx := 61) (as := [zi v1]) (rest := [zi 0, zr (some (106, 380))]) (n := 1) (f := (.inl (some (zi a)), h1)) (by decide +kernel) (c_Main_behind hl he) ⟨ok_Main_behind, by decide, by decide +kernel⟩ rfl wk_64 wk_65 wk_66 (by decide) rfl rfl rfl (Nat.le_of_ble_eq_true rfl) (Or.inl rfl) ⟨fun r hr _ => ?_, fun k hk => by cases hk⟩
      cases hr
      refine zH_run (t_none _) [(.i2l, 0, 0)] (8, [some (zr (some (0, 0))), some (zi v1), some (zr (some (106, 380))), none], [zl a.toInt64, zi 0, zr (some (106, 380))], h1) (by decide +kernel) rfl ?_
      refine zV_st (zS_ast (h' := zsL h1 380 0 a.toInt64) rfl (by decide +kernel) (by decide +kernel) rfl) (zle.same rfl) ?_
      refine zH_run (t_none _) [(.goto 6, 0, 0), (.iconst 0, 0, 0)] (16, [some (zr (some (0, 0))), some (zi v1), some (zr (some (106, 380))), none], [zi 0], zsL h1 380 0 a.toInt64) (by decide +kernel) rfl ?_
      exact zV_ret (g := (true, 2)) (r := some (zi 0)) (zrd_i rfl (by decide +kernel)) rfl
    · dsimp only [Option.bind_some, Sum.elim_inr] at hx
      split at hx
      · rename_i hk
        cases hx
        subst hk
        exact zV_catch (g' := (true, 2)) (bc := 0) (bs := 0) (mc := 1) (ms := 6) (idx := 61) (as := [zi v1]) (rest := [zi 0, zr (some (106, 380))]) (n := 1) (k := 2) (pre := []) (suf := []) (a := 0) (b := 9) (hp := 12) (t := 13) (w := 1) (slot := 3) (z := 1) (by decide +kernel) (c_Main_behind hl he) ⟨ok_Main_behind, by decide, by decide +kernel⟩ rfl wk_64 wk_65 wk_66 (by decide) rfl rfl rfl (Nat.le_of_ble_eq_true rfl) rfl (Or.inl rfl) (by decide) (by decide) wk_5 (Or.inr rfl) (Or.inr ⟨rfl, 3, rfl, by decide +kernel⟩) (by decide) rfl (by decide +kernel) (by decide +kernel) rfl rfl (Or.inl rfl)
      · cases hx
def m_L_tells : zM := (({ cls := "ScanPackerLaw", name := "tells", desc := "(LScanPacker;I[J)I" } : Jvm.MethodName), method_19_code, 4, (Option.some Jvm.ClassFile.FieldType.int), [(0, 9, 12, 18)], 8)
theorem ok_L_tells : zMok m_L_tells := ⟨by decide +kernel, wk_67, wk_1, by decide, by decide +kernel, by decide +kernel⟩
theorem c_L_tells {l : Launch} {X : zX} (hl : l.stackTraces = false) {h : zH} {v1 : Int32} {x : Int32 × zH} (hx : f_L_tells h v1 = some x) : zCt l (true, 2) 2 m_L_tells X 1 6 [zr (some (0, 0)), zi v1, zr (some (106, 380))] h (.inl (some (zi x.1)), x.2) := by
  refine zCt_of ok_L_tells hl (Nat.le_of_ble_eq_true rfl) ?_
  refine zV_eq (c := (0, [some (zr (some (0, 0))), some (zi v1), some (zr (some (106, 380))), none], [], h)) rfl ?_
  refine zH_run (t_none _) [(.aload_n 2, 0, 0), (.iconst 0, 0, 0), (.aload_n 0, 0, 0), (.iload_n 1, 0, 0)] (4, [some (zr (some (0, 0))), some (zi v1), some (zr (some (106, 380))), none], [zi v1, zr (some (0, 0)), zi 0, zr (some (106, 380))], h) (by decide +kernel) rfl ?_
  unfold f_L_tells at hx
  cases he : f_Main_tells h v1 with
  | none => rw [he] at hx; cases hx
  | some y =>
    rw [he] at hx
    rcases y with ⟨a, h1⟩ | ⟨k, h1⟩
    · cases hx
      refine zV_callV (g' := (true, 2)) (bc := 0) (bs := 0) (mc := 1) (ms := 6) (idx := 64) (as := [zi v1]) (rest := [zi 0, zr (some (106, 380))]) (n := 1) (f := (.inl (some (zi a)), h1)) (by decide +kernel) (c_Main_tells hl he) ⟨ok_Main_tells, by decide, by decide +kernel⟩ rfl wk_68 wk_69 wk_70 (by decide) rfl rfl rfl (Nat.le_of_ble_eq_true rfl) (Or.inl rfl) ⟨fun r hr _ => ?_, fun k hk => by cases hk⟩
      cases hr
      refine zH_run (t_none _) [(.i2l, 0, 0)] (8, [some (zr (some (0, 0))), some (zi v1), some (zr (some (106, 380))), none], [zl a.toInt64, zi 0, zr (some (106, 380))], h1) (by decide +kernel) rfl ?_
      refine zV_st (zS_ast (h' := zsL h1 380 0 a.toInt64) rfl (by decide +kernel) (by decide +kernel) rfl) (zle.same rfl) ?_
      refine zH_run (t_none _) [(.goto 6, 0, 0), (.iconst 0, 0, 0)] (16, [some (zr (some (0, 0))), some (zi v1), some (zr (some (106, 380))), none], [zi 0], zsL h1 380 0 a.toInt64) (by decide +kernel) rfl ?_
      exact zV_ret (g := (true, 2)) (r := some (zi 0)) (zrd_i rfl (by decide +kernel)) rfl
    · dsimp only [Option.bind_some, Sum.elim_inr] at hx
      split at hx
      · rename_i hk
        cases hx
        subst hk
        exact zV_catch (g' := (true, 2)) (bc := 0) (bs := 0) (mc := 1) (ms := 6) (idx := 64) (as := [zi v1]) (rest := [zi 0, zr (some (106, 380))]) (n := 1) (k := 1) (pre := []) (suf := []) (a := 0) (b := 9) (hp := 12) (t := 18) (w := 1) (slot := 3) (z := 1) (by decide +kernel) (c_Main_tells hl he) ⟨ok_Main_tells, by decide, by decide +kernel⟩ rfl wk_68 wk_69 wk_70 (by decide) rfl rfl rfl (Nat.le_of_ble_eq_true rfl) rfl (Or.inl rfl) (by decide) (by decide) wk_10 (Or.inl rfl) (Or.inr ⟨rfl, 3, rfl, by decide +kernel⟩) (by decide) rfl (by decide +kernel) (by decide +kernel) rfl rfl (Or.inl rfl)
      · cases hx
def m_L_years : zM := (({ cls := "ScanPackerLaw", name := "years", desc := "(LScanPacker;III[J)I" } : Jvm.MethodName), method_20_code, 6, (Option.some Jvm.ClassFile.FieldType.int), [(0, 12, 15, 18), (0, 12, 19, 13)], 7)
theorem ok_L_years : zMok m_L_years := ⟨by decide +kernel, wk_71, wk_1, by decide, by decide +kernel, by decide +kernel⟩
theorem c_L_years {l : Launch} {X : zX} (hl : l.stackTraces = false) {h : zH} {v1 : Int32} {v2 : Int32} {v3 : Int32} {x : Int32 × zH} (hx : f_L_years h v1 v2 v3 = some x) : zCt l (true, 2) 2 m_L_years X 1 6 [zr (some (0, 0)), zi v1, zi v2, zi v3, zr (some (106, 380))] h (.inl (some (zi x.1)), x.2) := by
  refine zCt_of ok_L_years hl (Nat.le_of_ble_eq_true rfl) ?_
  refine zV_eq (c := (0, [some (zr (some (0, 0))), some (zi v1), some (zi v2), some (zi v3), some (zr (some (106, 380))), none], [], h)) rfl ?_
  refine zH_run (t_none _) [(.aload 4, 0, 0), (.iconst 0, 0, 0), (.aload_n 0, 0, 0), (.iload_n 1, 0, 0), (.iload_n 2, 0, 0), (.iload_n 3, 0, 0)] (7, [some (zr (some (0, 0))), some (zi v1), some (zi v2), some (zi v3), some (zr (some (106, 380))), none], [zi v3, zi v2, zi v1, zr (some (0, 0)), zi 0, zr (some (106, 380))], h) (by decide +kernel) rfl ?_
  unfold f_L_years at hx
  cases he : f_Main_years h v1 v2 v3 with
  | none => rw [he] at hx; cases hx
  | some y =>
    rw [he] at hx
    rcases y with ⟨a, h1⟩ | ⟨k, h1⟩
    · cases hx
      refine zV_callV (g' := (true, 2)) (bc := 0) (bs := 0) (mc := 1) (ms := 6) (idx := 67) (as := [zi v1, zi v2, zi v3]) (rest := [zi 0, zr (some (106, 380))]) (n := 3) (f := (.inl (some (zi a)), h1)) (by decide +kernel) (c_Main_years hl he) ⟨ok_Main_years, by decide, by decide +kernel⟩ rfl wk_72 wk_73 wk_74 (by decide) rfl rfl rfl (Nat.le_of_ble_eq_true rfl) (Or.inl rfl) ⟨fun r hr _ => ?_, fun k hk => by cases hk⟩
      cases hr
      refine zH_run (t_none _) [(.i2l, 0, 0)] (11, [some (zr (some (0, 0))), some (zi v1), some (zi v2), some (zi v3), some (zr (some (106, 380))), none], [zl a.toInt64, zi 0, zr (some (106, 380))], h1) (by decide +kernel) rfl ?_
      refine zV_st (zS_ast (h' := zsL h1 380 0 a.toInt64) rfl (by decide +kernel) (by decide +kernel) rfl) (zle.same rfl) ?_
      refine zH_run (t_none _) [(.goto 11, 0, 0), (.iconst 0, 0, 0)] (24, [some (zr (some (0, 0))), some (zi v1), some (zi v2), some (zi v3), some (zr (some (106, 380))), none], [zi 0], zsL h1 380 0 a.toInt64) (by decide +kernel) rfl ?_
      exact zV_ret (g := (true, 2)) (r := some (zi 0)) (zrd_i rfl (by decide +kernel)) rfl
    · dsimp only [Option.bind_some, Sum.elim_inr] at hx
      split at hx
      · rename_i hk
        cases hx
        subst hk
        exact zV_catch (g' := (true, 2)) (bc := 0) (bs := 0) (mc := 1) (ms := 6) (idx := 67) (as := [zi v1, zi v2, zi v3]) (rest := [zi 0, zr (some (106, 380))]) (n := 3) (k := 1) (pre := []) (suf := [(0, 12, 19, 13)]) (a := 0) (b := 12) (hp := 15) (t := 18) (w := 2) (slot := 5) (z := 1) (by decide +kernel) (c_Main_years hl he) ⟨ok_Main_years, by decide, by decide +kernel⟩ rfl wk_72 wk_73 wk_74 (by decide) rfl rfl rfl (Nat.le_of_ble_eq_true rfl) rfl (Or.inl rfl) (by decide) (by decide) wk_10 (Or.inl rfl) (Or.inl ⟨rfl, by decide +kernel⟩) (by decide) rfl (by decide +kernel) (by decide +kernel) rfl rfl (Or.inl rfl)
      · split at hx
        · rename_i hk
          cases hx
          subst hk
          exact zV_catch (g' := (true, 2)) (bc := 0) (bs := 0) (mc := 1) (ms := 6) (idx := 67) (as := [zi v1, zi v2, zi v3]) (rest := [zi 0, zr (some (106, 380))]) (n := 3) (k := 2) (pre := [(0, 12, 15, 18)]) (suf := []) (a := 0) (b := 12) (hp := 19) (t := 13) (w := 2) (slot := 5) (z := 2) (by decide +kernel) (c_Main_years hl he) ⟨ok_Main_years, by decide, by decide +kernel⟩ rfl wk_72 wk_73 wk_74 (by decide) rfl rfl rfl (Nat.le_of_ble_eq_true rfl) rfl (Or.inr ⟨rfl, fun z hz => by rw [List.mem_singleton.mp hz]; exact ⟨by decide, wk_10⟩⟩) (by decide) (by decide) wk_5 (Or.inr rfl) (Or.inl ⟨rfl, by decide +kernel⟩) (by decide) rfl (by decide +kernel) (by decide +kernel) rfl rfl (Or.inl rfl)
        · cases hx
