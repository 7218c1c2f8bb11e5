/-! the law's start, by wip/whole/pend.py -/
theorem we_0 : (Jvm.Cond.classLink "ScanPackerLaw" (8 : Nat) "ScanPacker") ∈ zW := zW_of 146 (by decide +kernel) (by decide +kernel)
theorem we_1 : (Jvm.Cond.instantiable "ScanPacker" (11 : Nat)) ∈ zW := zW_of 147 (by decide +kernel) (by decide +kernel)
theorem we_2 : (Jvm.Cond.initialized "ScanPacker") ∈ zW := zW_of 122 (by decide +kernel) (by decide +kernel)
theorem we_3 : (Jvm.Cond.methodLink "ScanPackerLaw" (70 : Nat) ({ cls := "ScanPacker", name := "<init>", desc := "()V" } : Jvm.MethodName)) ∈ zW := zW_of 148 (by decide +kernel) (by decide +kernel)
theorem we_4 : (Jvm.Cond.instanceMethod ({ cls := "ScanPacker", name := "<init>", desc := "()V" } : Jvm.MethodName)) ∈ zW := zW_of 149 (by decide +kernel) (by decide +kernel)
theorem we_5 : (Jvm.Cond.classLink "ScanPackerLaw" (71 : Nat) "ScanPackerModel") ∈ zW := zW_of 1367 (by decide +kernel) (by decide +kernel)
theorem we_6 : (Jvm.Cond.instantiable "ScanPackerModel" (64 : Nat)) ∈ zW := zW_of 1368 (by decide +kernel) (by decide +kernel)
theorem we_7 : (Jvm.Cond.initialized "ScanPackerModel") ∈ zW := zW_of 134 (by decide +kernel) (by decide +kernel)
theorem we_8 : (Jvm.Cond.methodLink "ScanPackerLaw" (73 : Nat) ({ cls := "ScanPackerModel", name := "<init>", desc := "()V" } : Jvm.MethodName)) ∈ zW := zW_of 1369 (by decide +kernel) (by decide +kernel)
theorem we_9 : (Jvm.Cond.instanceMethod ({ cls := "ScanPackerModel", name := "<init>", desc := "()V" } : Jvm.MethodName)) ∈ zW := zW_of 1370 (by decide +kernel) (by decide +kernel)
theorem we_10 : (Jvm.Cond.arrayClass Jvm.ClassFile.FieldType.long) ∈ zW := zW_of 340 (by decide +kernel) (by decide +kernel)
def gF : List Cond := flatC (Jvm.Cond.and given_1 narrow_1)
theorem gm_ex : ∀ i, i < 11 → Cond.exactly (.string "ScanPackerModel" (zstr.getD i (0, "")).1) "java/lang/String" ∈ gF := by decide +kernel
theorem gm_co : ∀ i, i < 11 → Cond.eq (.field (.string "ScanPackerModel" (zstr.getD i (0, "")).1) "java/lang/String" "coder" "B") (.int 0) ∈ gF := by decide +kernel
theorem gm_ar : ∀ i, i < 11 → Cond.arrayOf (.field (.string "ScanPackerModel" (zstr.getD i (0, "")).1) "java/lang/String" "value" "[B") .byte ∈ gF := by decide +kernel
theorem gm_le : ∀ i, i < 11 → Cond.eq (.length (.field (.string "ScanPackerModel" (zstr.getD i (0, "")).1) "java/lang/String" "value" "[B")) (.int (Int32.ofNat (zslen.getD i 0))) ∈ gF := by decide +kernel
theorem gm_el : ∀ i, i < 11 → ∀ j, j < zslen.getD i 0 → Cond.eq (.elem (.field (.string "ScanPackerModel" (zstr.getD i (0, "")).1) "java/lang/String" "value" "[B") (.int (Int32.ofNat j))) (.int ((zsbyt.getD i []).getD j 0)) ∈ gF := by decide +kernel
theorem gm_ne : ∀ i, i < 11 → ∀ j, j < 11 → i ≠ j → Cond.not (Cond.eq (.string "ScanPackerModel" (zstr.getD i (0, "")).1) (.string "ScanPackerModel" (zstr.getD j (0, "")).1)) ∈ gF ∨ Cond.not (Cond.eq (.string "ScanPackerModel" (zstr.getD j (0, "")).1) (.string "ScanPackerModel" (zstr.getD i (0, "")).1)) ∈ gF := by decide +kernel
theorem gm_ra : Cond.arrayOf (.static "ScanPacker$Catalog" "ROWS_OF_INPUT" "[J") .long ∈ gF := by decide +kernel
theorem gm_rl : Cond.eq (.length (.static "ScanPacker$Catalog" "ROWS_OF_INPUT" "[J")) (.int (Int32.ofNat 6)) ∈ gF := by decide +kernel
theorem gm_re : ∀ j, j < 6 → Cond.eq (.elem (.static "ScanPacker$Catalog" "ROWS_OF_INPUT" "[J") (.int (Int32.ofNat j))) (.long (zrows j)) ∈ gF := by decide +kernel
theorem gm_us : Cond.isRef (.static Bundle.tN "UNASSIGNED_STACK" Bundle.steD) ∈ gF := by decide +kernel
theorem gm_ss : Cond.isRef (.static Bundle.tN "SUPPRESSED_SENTINEL" Bundle.listD) ∈ gF := by decide +kernel
theorem gm_cs : Cond.eq (.static "java/lang/String" "COMPACT_STRINGS" "Z") (.int 1) ∈ gF := by decide +kernel
theorem gm_sf : Cond.isRef (.static "jdk/internal/util/Preconditions" "SIOOBE_FORMATTER" "Ljava/util/function/BiFunction;") ∈ gF := by decide +kernel
theorem gm_nc : Cond.not (.castable "java/lang/IllegalArgumentException" "java/util/NoSuchElementException") ∈ gF := by decide +kernel
theorem gstr : ∀ i, i < 11 → lw_tbl[1375 + i]? = some (Cond.stringRef "ScanPackerModel" (zstr.getD i (0, "")).1 (zstr.getD i (0, "")).2) := by decide +kernel
theorem gnest : ∀ k, k < 24 → lw_tbl[(([156, 162, 199, 310, 313, 321, 398, 448, 459, 495, 567, 621, 636, 753, 754, 771, 1037, 1136, 1137, 884, 1080, 885, 887, 889] : List Nat).getD k 0)]? = zNest[k]? := by decide +kernel
theorem gnest_t : ∀ w ∈ zNest, w.onTables = true := by decide +kernel
theorem gS_congr {N : Nat} {len : List Nat} {byt : List (List Int32)} {aK aV aK' aV' : Nat → Nat} {A : Nat → Prop} {U : State} {H : Heap} (h : vk_S N len byt aK aV A U H) (e1 : ∀ i, i < N → aK' i = aK i) (e2 : ∀ i, i < N → aV' i = aV i) : vk_S N len byt aK' aV' A U H := by
  refine ⟨fun i hi => ?_, fun i j hi hj e => h.2 i j hi hj (by rw [← e1 i hi, ← e1 j hj]; exact e)⟩
  rw [e1 i hi, e2 i hi]
  exact h.1 i hi
def gad (b tR tS : Nat) (aK aV : Nat → Nat) (o : Nat) : Nat := if o = zSO then b else if o = zSO + 1 then tR else if o = zSO + 2 then tS else if o < zSO + 30 then aK (o - (zSO + 10)) else aV (o - (zSO + 30))
theorem gad_0 {b tR tS : Nat} {aK aV : Nat → Nat} : gad b tR tS aK aV zSO = b := if_pos rfl
theorem gad_1 {b tR tS : Nat} {aK aV : Nat → Nat} : gad b tR tS aK aV (zSO + 1) = tR := by
  unfold gad
  rw [if_neg (by omega), if_pos rfl]
theorem gad_2 {b tR tS : Nat} {aK aV : Nat → Nat} : gad b tR tS aK aV (zSO + 2) = tS := by
  unfold gad
  rw [if_neg (by omega), if_neg (by omega), if_pos rfl]
theorem gad_K {b tR tS i : Nat} {aK aV : Nat → Nat} (h : i < 11) : gad b tR tS aK aV (zSO + 10 + i) = aK i := by
  unfold gad
  rw [if_neg (by omega), if_neg (by omega), if_neg (by omega), if_pos (by omega), Nat.add_sub_cancel_left]
theorem gad_V {b tR tS i : Nat} {aK aV : Nat → Nat} (h : i < 11) : gad b tR tS aK aV (zSO + 30 + i) = aV i := by
  unfold gad
  rw [if_neg (by omega), if_neg (by omega), if_neg (by omega), if_neg (by omega), Nat.add_sub_cancel_left]
abbrev gEnv (b L : Nat) (s : State) : Prop := ∃ (ys : Nat → Int32) (ad0 : Nat → Nat), ad0 zSO = b ∧ vx_Zq Bundle.tN "UNASSIGNED_STACK" Bundle.steD (fun q : Nat => s.heap.size ≤ q) s s.heap ∧ vx_Zq Bundle.tN "SUPPRESSED_SENTINEL" Bundle.listD (fun q : Nat => s.heap.size ≤ q) s s.heap ∧ va_Z "java/lang/String" "COMPACT_STRINGS" "Z" (.int 1) (fun q : Nat => s.heap.size ≤ q) s s.heap ∧
  va_Z "ScanPacker$Catalog" "ROWS_OF_INPUT" "[J" (.ref (ad0 (zSO + 1))) (fun q : Nat => s.heap.size ≤ q) s s.heap ∧ va_T .long (ad0 (zSO + 1)) 6 (fun j => .long (zrows j)) (fun q : Nat => s.heap.size ≤ q) s s.heap ∧
  vk_S 11 zslen zsbyt (fun i => ad0 (zSO + 10 + i)) (fun i => ad0 (zSO + 30 + i)) (fun q : Nat => s.heap.size ≤ q) s s.heap ∧ (∀ i, i < 11 → vk_R "ScanPackerModel" (zstr.getD i (0, "")).1 (zstr.getD i (0, "")).2 (ad0 (zSO + 10 + i)) s) ∧
  va_T .int (ad0 zSO) L (fun j => .int (ys j)) (fun q : Nat => s.heap.size ≤ q) s s.heap ∧ (∀ w ∈ zNest, va_Nw w s) ∧ va_Nc "java/lang/IllegalArgumentException" "java/util/NoSuchElementException" s ∧ zArr s ∧ va_Z "jdk/internal/util/Preconditions" "SIOOBE_FORMATTER" "Ljava/util/function/BiFunction;" (zcv ad0 (zr (zsF (L, ys)))) (fun q : Nat => s.heap.size ≤ q) s s.heap
theorem g_env {b L : Nat} {xs : Nat → Int32} {s : State} (hL : L ≤ 3072) (hts : ∀ w ∈ lw_tbl, w.before #[Value.ref b] s = true) (hX : va_X b L xs s s.heap) (hbl : b < s.heap.size) (hgv : (Jvm.Cond.and given_1 narrow_1).before #[Value.ref b] s = true) : gEnv b L s := by
  have hA : ∀ a : Nat, a < s.heap.size → ¬ (fun q : Nat => s.heap.size ≤ q) a := fun a h => Nat.not_le.mpr h
  have hF : ∀ w ∈ gF, w.before #[Value.ref b] s = true := flat_of_before _ hgv
  have ht : ∀ {w : Cond} (i : Nat), lw_tbl[i]? = some w → w.before #[Value.ref b] s = true := fun i h => hts _ (List.mem_of_getElem? h)
  have u1 := vx_Zqof (ht (w := .laysStatic Bundle.tN "UNASSIGNED_STACK" Bundle.steD) 909 (by decide +kernel)) (ht (w := .initialized Bundle.tN) 135 (by decide +kernel)) (hF _ gm_us) hA
  have u2 := vx_Zqof (ht (w := .laysStatic Bundle.tN "SUPPRESSED_SENTINEL" Bundle.listD) 911 (by decide +kernel)) (ht (w := .initialized Bundle.tN) 135 (by decide +kernel)) (hF _ gm_ss) hA
  have u3 := va_Zof (ht (w := .laysStatic "java/lang/String" "COMPACT_STRINGS" "Z") 1682 (by decide +kernel)) (ht (w := .initialized "java/lang/String") 140 (by decide +kernel)) (va_eqt (hF _ gm_cs)) hA
  obtain ⟨tR, r1, r2⟩ := va_Tof (f := fun j => .long (zrows j)) (N := 6) (by decide) (hF _ gm_ra) (va_eqt (hF _ gm_rl)) (fun j hj => va_eqtl (hF _ (gm_re j hj))) hA
  have u4 := va_Zref (ht (w := .laysStatic "ScanPacker$Catalog" "ROWS_OF_INPUT" "[J") 589 (by decide +kernel)) (ht (w := .initialized "ScanPacker$Catalog") 126 (by decide +kernel)) r1 hA
  obtain ⟨aK, aV, s1, s2⟩ := vk_Sof (N := 11) (tm := fun i => (.string "ScanPackerModel" (zstr.getD i (0, "")).1)) (len := zslen) (byt := zsbyt) (by decide +kernel) (fun i hi => hF _ (gm_ex i hi)) (fun i hi => hF _ (gm_co i hi)) (fun i hi => hF _ (gm_ar i hi)) (fun i hi => hF _ (gm_le i hi)) (fun i hi j hj => hF _ (gm_el i hi j hj)) (fun i j hi hj hn => (gm_ne i hi j hj hn).imp (hF _) (hF _)) hA
  have h9 : ∀ w ∈ zNest, va_Nw w s := fun w hw => by
    obtain ⟨k, hk⟩ := List.getElem?_of_mem hw
    have h1 : k < 24 := (List.getElem?_eq_some_iff.mp hk).1
    exact va_Nw.of (gnest_t w hw) (ht _ ((gnest k h1).trans hk))
  have h10 : va_Nc "java/lang/IllegalArgumentException" "java/util/NoSuchElementException" s := va_Nc.of (hF _ gm_nc)
  have h11 : zArr s := ⟨va_AO.of (ht (w := .arrayOver (.object "ScanPacker$State")) 529 (by decide +kernel)), va_AO.of (ht (w := .arrayOver (.object "java/lang/String")) 1374 (by decide +kernel)), ht (w := .arrayOver (.array .int)) 204 (by decide +kernel), ht (w := .arrayOver (.array .long)) 318 (by decide +kernel)⟩
  have key : ∀ (ys : Nat → Int32) (tS : Nat), (∀ j, j < L → ys j = xs j) → va_Z "jdk/internal/util/Preconditions" "SIOOBE_FORMATTER" "Ljava/util/function/BiFunction;" (zcv (gad b tR tS aK aV) (zr (zsF (L, ys)))) (fun q : Nat => s.heap.size ≤ q) s s.heap → gEnv b L s := fun ys tS hy h12 => ⟨ys, gad b tR tS aK aV, gad_0, u1, u2, u3, by rw [gad_1]; exact u4, by rw [gad_1]; exact r2, gS_congr s1 (fun i hi => gad_K hi) (fun i hi => gad_V hi), fun i hi => by rw [gad_K hi]; exact vk_R.of (ht _ (gstr i hi)) (s2 i hi), by
    rw [gad_0]
    obtain ⟨scr, x1, x2, x3, x4, x5⟩ := hX
    exact ⟨scr, x1, x2, x3, by rw [x4]; exact Nat.le_refl _, by rw [x4], fun j hj => by show scr.slots[j]? = some (Value.int (ys j)); rw [hy j hj]; exact x5 j hj, hA _ hbl⟩, h9, h10, h11, h12⟩
  rcases va_Zqof (ht (w := .laysStatic "jdk/internal/util/Preconditions" "SIOOBE_FORMATTER" "Ljava/util/function/BiFunction;") 1698 (by decide +kernel)) (ht (w := .initialized "jdk/internal/util/Preconditions") 142 (by decide +kernel)) (hF _ gm_sf) hA with h | ⟨tS, h⟩
  · refine key (fun j => if j < 5000 then xs j else 1) 0 (fun j hj => if_pos (by omega)) ?_
    have e : zsF (L, fun j => if j < 5000 then xs j else 1) = none := by
      unfold zsF
      rw [if_neg (by show ¬ (1 : Int32) = 0; decide)]
    rw [e]
    exact h
  · refine key (fun j => if j < 5000 then xs j else 0) tS (fun j hj => if_pos (by omega)) ?_
    have e : zsF (L, fun j => if j < 5000 then xs j else 0) = some (204, zSO + 2) := by
      unfold zsF
      rw [if_pos (by show (0 : Int32) = 0; rfl)]
    rw [e]
    show va_Z "jdk/internal/util/Preconditions" "SIOOBE_FORMATTER" "Ljava/util/function/BiFunction;" (.ref (gad b tR tS aK aV (zSO + 2))) (fun q : Nat => s.heap.size ≤ q) s s.heap
    rw [gad_2]
    exact h
def gtys : List FieldType := [.int, .long, .byte, .boolean, .object "ScanPacker$State", .object "java/lang/String", .array .int, .array .long]
theorem gel : ∀ c, c < 128 → zel c ∈ gtys := by decide +kernel
theorem g_arr {b : Nat} {s : State} (hts : ∀ w ∈ lw_tbl, w.before #[Value.ref b] s = true) : ∀ ty ∈ gtys, ∃ a : ClassId, ArrOfT s a ty ∧ va_RA s a ty := by
  have ht : ∀ {w : Cond} (i : Nat), lw_tbl[i]? = some w → w.before #[Value.ref b] s = true := fun i h => hts _ (List.mem_of_getElem? h)
  intro ty hty
  simp only [gtys, List.mem_cons, List.not_mem_nil, or_false] at hty
  rcases hty with rfl | rfl | rfl | rfl | rfl | rfl | rfl | rfl
  · obtain ⟨a, k, comp, h1, h2, h3⟩ := Cond.arrayClass_spec (ht (w := .arrayClass .int) 293 (by decide +kernel))
    exact ⟨a, fun n z => ⟨(fun k h => by cases h), k, h2, comp, h3⟩, h1⟩
  · obtain ⟨a, k, comp, h1, h2, h3⟩ := Cond.arrayClass_spec (ht (w := .arrayClass .long) 340 (by decide +kernel))
    exact ⟨a, fun n z => ⟨(fun k h => by cases h), k, h2, comp, h3⟩, h1⟩
  · obtain ⟨a, k, comp, h1, h2, h3⟩ := Cond.arrayClass_spec (ht (w := .arrayClass .byte) 196 (by decide +kernel))
    exact ⟨a, fun n z => ⟨(fun k h => by cases h), k, h2, comp, h3⟩, h1⟩
  · obtain ⟨a, k, comp, h1, h2, h3⟩ := Cond.arrayClass_spec (ht (w := .arrayClass .boolean) 1630 (by decide +kernel))
    exact ⟨a, fun n z => ⟨(fun k h => by cases h), k, h2, comp, h3⟩, h1⟩
  · obtain ⟨comp, a, k, h1, -, h2, h3, h4⟩ := Cond.arrayOver_spec (ht (w := .arrayOver (.object "ScanPacker$State")) 529 (by decide +kernel))
    exact ⟨a, fun n z => ⟨(fun k h => by cases h), k, h2, comp, h3⟩, k, comp, h2, h3, h1, h4⟩
  · obtain ⟨comp, a, k, h1, -, h2, h3, h4⟩ := Cond.arrayOver_spec (ht (w := .arrayOver (.object "java/lang/String")) 1374 (by decide +kernel))
    exact ⟨a, fun n z => ⟨(fun k h => by cases h), k, h2, comp, h3⟩, k, comp, h2, h3, h1, h4⟩
  · obtain ⟨comp, a, k, h1, -, h2, h3, h4⟩ := arrayOverA_spec (ht (w := .arrayOver (.array .int)) 204 (by decide +kernel))
    exact ⟨a, fun n z => ⟨(fun k h => by cases h), k, h2, comp, h3⟩, h4⟩
  · obtain ⟨comp, a, k, h1, -, h2, h3, h4⟩ := arrayOverA_spec (ht (w := .arrayOver (.array .long)) 318 (by decide +kernel))
    exact ⟨a, fun n z => ⟨(fun k h => by cases h), k, h2, comp, h3⟩, h4⟩
theorem g_kinds {b : Nat} {s : State} (hts : ∀ w ∈ lw_tbl, w.before #[Value.ref b] s = true) : ∃ (D : va_G) (cA : Nat → ClassId), va_K D classes (ztys cA) s := by
  have ht : ∀ {w : Cond} (i : Nat), lw_tbl[i]? = some w → w.before #[Value.ref b] s = true := fun i h => hts _ (List.mem_of_getElem? h)
  have hz : ∀ w ∈ zW, w.before #[Value.ref b] s = true := fun w hw => hts w (List.mem_filter.mp hw).1
  obtain ⟨a0, -, -⟩ := g_arr hts .int (by decide +kernel)
  have h0 : ∀ c : Nat, ∃ q9 : ClassId × (Nat → Nat), ∀ q : vw_C, classes[c]? = some q → u_Kn s q.1 q.2.1 q.2.2 q9.1 q9.2 := by
    intro c
    match c with
    | 0 =>
      obtain ⟨a, f, h⟩ := u_known (C := "ScanPacker") (T := zF_Main) (N := 11) (n := 11) hz zw_Main (ht (w := .instantiable "ScanPacker" 11) 147 (by decide +kernel))
      exact ⟨(a, f), fun q hq => by cases hq; exact h⟩
    | 1 =>
      obtain ⟨a, f, h⟩ := u_known (C := "ScanPacker$Catalog") (T := zF_Catalog) (N := 13) (n := 13) hz zw_Catalog (ht (w := .instantiable "ScanPacker$Catalog" 13) 312 (by decide +kernel))
      exact ⟨(a, f), fun q hq => by cases hq; exact h⟩
    | 2 =>
      obtain ⟨a, f, h⟩ := u_known (C := "ScanPacker$Diagnosis") (T := zF_Diagnosis) (N := 6) (n := 6) hz zw_Diagnosis (ht (w := .instantiable "ScanPacker$Diagnosis" 6) 458 (by decide +kernel))
      exact ⟨(a, f), fun q hq => by cases hq; exact h⟩
    | 3 =>
      obtain ⟨a, f, h⟩ := u_known (C := "ScanPacker$Net") (T := zF_Net) (N := 16) (n := 16) hz zw_Net (ht (w := .instantiable "ScanPacker$Net" 16) 198 (by decide +kernel))
      exact ⟨(a, f), fun q hq => by cases hq; exact h⟩
    | 4 =>
      obtain ⟨a, f, h⟩ := u_known (C := "ScanPacker$Packs") (T := zF_Packs) (N := 1) (n := 1) hz zw_Packs (ht (w := .instantiable "ScanPacker$Packs" 1) 447 (by decide +kernel))
      exact ⟨(a, f), fun q hq => by cases hq; exact h⟩
    | 5 =>
      obtain ⟨a, f, h⟩ := u_known (C := "ScanPacker$Parser") (T := zF_Parser) (N := 4) (n := 4) hz zw_Parser (ht (w := .instantiable "ScanPacker$Parser" 4) 155 (by decide +kernel))
      exact ⟨(a, f), fun q hq => by cases hq; exact h⟩
    | 6 =>
      obtain ⟨a, f, h⟩ := u_known (C := "ScanPacker$Program") (T := zF_Program) (N := 12) (n := 12) hz zw_Program (ht (w := .instantiable "ScanPacker$Program" 12) 397 (by decide +kernel))
      exact ⟨(a, f), fun q hq => by cases hq; exact h⟩
    | 7 =>
      obtain ⟨a, f, h⟩ := u_known (C := "ScanPacker$Session") (T := zF_Session) (N := 9) (n := 9) hz zw_Session (ht (w := .instantiable "ScanPacker$Session" 9) 488 (by decide +kernel))
      exact ⟨(a, f), fun q hq => by cases hq; exact h⟩
    | 8 =>
      obtain ⟨a, f, h⟩ := u_known (C := "ScanPacker$State") (T := zF_State) (N := 7) (n := 7) hz zw_State (ht (w := .instantiable "ScanPacker$State" 7) 494 (by decide +kernel))
      exact ⟨(a, f), fun q hq => by cases hq; exact h⟩
    | 9 =>
      obtain ⟨a, f, h⟩ := u_known (C := "ScanPacker$Tape") (T := zF_Tape) (N := 8) (n := 8) hz zw_Tape (ht (w := .instantiable "ScanPacker$Tape" 8) 161 (by decide +kernel))
      exact ⟨(a, f), fun q hq => by cases hq; exact h⟩
    | 10 =>
      obtain ⟨a, f, h⟩ := u_known (C := "ScanPacker$Waves") (T := zF_Waves) (N := 4) (n := 4) hz zw_Waves (ht (w := .instantiable "ScanPacker$Waves" 4) 320 (by decide +kernel))
      exact ⟨(a, f), fun q hq => by cases hq; exact h⟩
    | 11 =>
      obtain ⟨a, f, h⟩ := u_known (C := "ScanPackerModel") (T := zF_Model) (N := 64) (n := 64) hz zw_Model (ht (w := .instantiable "ScanPackerModel" 64) 1368 (by decide +kernel))
      exact ⟨(a, f), fun q hq => by cases hq; exact h⟩
    | 12 =>
      obtain ⟨a, f, h⟩ := u_known (C := "java/lang/IllegalArgumentException") (T := zF_X) (N := 0) (n := 6) hz (fun w hw => by cases hw) (ht (w := .instantiable "java/lang/IllegalArgumentException" 6) 883 (by decide +kernel))
      exact ⟨(a, f), fun q hq => by cases hq; exact h⟩
    | 13 =>
      obtain ⟨a, f, h⟩ := u_known (C := "java/util/NoSuchElementException") (T := zF_X) (N := 0) (n := 6) hz (fun w hw => by cases hw) (ht (w := .instantiable "java/util/NoSuchElementException" 6) 1079 (by decide +kernel))
      exact ⟨(a, f), fun q hq => by cases hq; exact h⟩
    | n + 14 => exact ⟨(a0, fun _ => 0), fun q hq => nomatch (show (none : Option vw_C) = some q from hq)⟩
  have h1 : ∀ c : Nat, ∃ a : ClassId, c < 128 → ArrOfT s a (zel c) ∧ va_RA s a (zel c) := by
    intro c
    by_cases hc : c < 128
    · obtain ⟨a, h⟩ := g_arr hts (zel c) (gel c hc)
      exact ⟨a, fun _ => h⟩
    · exact ⟨a0, fun h => absurd h hc⟩
  obtain ⟨d, hd⟩ := Classical.axiomOfChoice h0
  obtain ⟨cA, hc⟩ := Classical.axiomOfChoice h1
  refine ⟨(fun c => (d c).1, fun c => (d c).2), cA, fun c q hq => hd c q hq, fun k q hq => ?_⟩
  have hk : k < 128 := by
    have := (List.getElem?_eq_some_iff.mp hq).1
    simpa [ztys] using this
  rw [ztys_get hk] at hq
  cases hq
  exact hc k hk
/-! ===== the walk to the loop ===== -/
theorem zV_soft {l : Launch} {n md : Nat} {M : zM} {X : zX} {bc bs : Nat} {c : zC} {P : zF → Prop} (k : zVV l (true, n) md M X bc bs c P) : zVV l (false, n) md M X bc bs c P := by
  intro p e R s m args below meth cd D cA ad0 A Q hC hf hl ad H locs ls cells slots ha hG hc hs hF
  refine k p e R s m args below meth cd D cA ad0 A Q hC hf hl ad H locs ls cells slots ha hG hc hs ?_
  intro f hP ad' H' locs' cells' slots' pc ls' h1 h2 h3 h4 h5 h6
  exact hF f hP ad' H' locs' cells' slots' pc ls' h1 h2 h3 (zle.weak h4) h5 h6
theorem zfr_fm {h h' : zH} {T : Nat} {L : List (Nat × Nat × Nat × Nat)} (hf : zfr h.1 h.2.1 h.2.2.1 T) (q : zfm L h h') (hz : ∀ a k, T ≤ a → zin L a k = false) : zfr h'.1 h'.2.1 h'.2.2.1 T := fun a ha => ⟨funext fun k => (q.2 a k (hz a k ha)).1.trans (congrFun (hf a ha).1 k), funext fun k => (q.2 a k (hz a k ha)).2.trans (congrFun (hf a ha).2.1 k), by rw [q.1]; exact (hf a ha).2.2⟩
theorem gmkz : ∀ o, o < 333 → zmk (zKf o) = false := by decide +kernel
theorem gmode {h : zH} {o k : Nat} (ho : o < 333) : zref 2 h (zKf o) o k = zref 1 h (zKf o) o k := by
  have e : zstm 2 (zKf o) o k = zstm 1 (zKf o) o k := by
    show zst (zKf o) o k = (match zmk (zKf o) with | true => none | false => zst (zKf o) o k)
    rw [gmkz o ho]
  unfold zref
  rw [e]
