/-! ===== String.length, String.charAt ===== -/
def m_Str_coder : zM := (({ cls := "java/lang/String", name := "coder", desc := "()B" } : Jvm.MethodName), prog_23_method_152_code, 1, (Option.some Jvm.ClassFile.FieldType.byte), [], 1)
theorem ws_0 : (Jvm.Cond.code ({ cls := "java/lang/String", name := "coder", desc := "()B" } : Jvm.MethodName) prog_23_method_152_code (1 : Nat) (Option.some Jvm.ClassFile.FieldType.byte)) ∈ zW := zW_of 1680 (by decide +kernel) (by decide +kernel)
theorem ws_1 : (Jvm.Cond.initialized "java/lang/String") ∈ zW := zW_of 140 (by decide +kernel) (by decide +kernel)
theorem ok_Str_coder : zMok m_Str_coder := ⟨by decide +kernel, ws_0, ws_1, by decide, by decide +kernel, by decide +kernel⟩
def m_Str_length : zM := (({ cls := "java/lang/String", name := "length", desc := "()I" } : Jvm.MethodName), prog_23_method_54_code, 1, (Option.some Jvm.ClassFile.FieldType.int), [], 2)
theorem ws_2 : (Jvm.Cond.code ({ cls := "java/lang/String", name := "length", desc := "()I" } : Jvm.MethodName) prog_23_method_54_code (1 : Nat) (Option.some Jvm.ClassFile.FieldType.int)) ∈ zW := zW_of 1676 (by decide +kernel) (by decide +kernel)
theorem ok_Str_length : zMok m_Str_length := ⟨by decide +kernel, ws_2, ws_1, by decide, by decide +kernel, by decide +kernel⟩
def m_Str_isLatin1 : zM := (({ cls := "java/lang/String", name := "isLatin1", desc := "()Z" } : Jvm.MethodName), prog_23_method_154_code, 1, (Option.some Jvm.ClassFile.FieldType.boolean), [], 1)
theorem ws_3 : (Jvm.Cond.code ({ cls := "java/lang/String", name := "isLatin1", desc := "()Z" } : Jvm.MethodName) prog_23_method_154_code (1 : Nat) (Option.some Jvm.ClassFile.FieldType.boolean)) ∈ zW := zW_of 1690 (by decide +kernel) (by decide +kernel)
theorem ok_Str_isLatin1 : zMok m_Str_isLatin1 := ⟨by decide +kernel, ws_3, ws_1, by decide, by decide +kernel, by decide +kernel⟩
def m_Pre_checkIndex : zM := (({ cls := "jdk/internal/util/Preconditions", name := "checkIndex", desc := "(IILjava/util/function/BiFunction;)I" } : Jvm.MethodName), prog_30_method_11_code, 3, (Option.some Jvm.ClassFile.FieldType.int), [], 1)
theorem ws_4 : (Jvm.Cond.code ({ cls := "jdk/internal/util/Preconditions", name := "checkIndex", desc := "(IILjava/util/function/BiFunction;)I" } : Jvm.MethodName) prog_30_method_11_code (3 : Nat) (Option.some Jvm.ClassFile.FieldType.int)) ∈ zW := zW_of 1701 (by decide +kernel) (by decide +kernel)
theorem ws_5 : (Jvm.Cond.initialized "jdk/internal/util/Preconditions") ∈ zW := zW_of 142 (by decide +kernel) (by decide +kernel)
theorem ok_Pre_checkIndex : zMok m_Pre_checkIndex := ⟨by decide +kernel, ws_4, ws_5, by decide, by decide +kernel, by decide +kernel⟩
def m_Str_checkIndex : zM := (({ cls := "java/lang/String", name := "checkIndex", desc := "(II)V" } : Jvm.MethodName), prog_23_method_155_code, 2, (Option.none : Option Jvm.ClassFile.FieldType), [], 2)
theorem ws_6 : (Jvm.Cond.code ({ cls := "java/lang/String", name := "checkIndex", desc := "(II)V" } : Jvm.MethodName) prog_23_method_155_code (2 : Nat) (Option.none : Option Jvm.ClassFile.FieldType)) ∈ zW := zW_of 1696 (by decide +kernel) (by decide +kernel)
theorem ok_Str_checkIndex : zMok m_Str_checkIndex := ⟨by decide +kernel, ws_6, ws_1, by decide, by decide +kernel, by decide +kernel⟩
def m_Lat_charAt : zM := (({ cls := "java/lang/StringLatin1", name := "charAt", desc := "([BI)C" } : Jvm.MethodName), prog_24_method_2_code, 2, (Option.some Jvm.ClassFile.FieldType.char), [], 3)
theorem ws_7 : (Jvm.Cond.code ({ cls := "java/lang/StringLatin1", name := "charAt", desc := "([BI)C" } : Jvm.MethodName) prog_24_method_2_code (2 : Nat) (Option.some Jvm.ClassFile.FieldType.char)) ∈ zW := zW_of 1693 (by decide +kernel) (by decide +kernel)
theorem ws_8 : (Jvm.Cond.initialized "java/lang/StringLatin1") ∈ zW := zW_of 141 (by decide +kernel) (by decide +kernel)
theorem ok_Lat_charAt : zMok m_Lat_charAt := ⟨by decide +kernel, ws_7, ws_8, by decide, by decide +kernel, by decide +kernel⟩
def m_Str_charAt : zM := (({ cls := "java/lang/String", name := "charAt", desc := "(I)C" } : Jvm.MethodName), prog_23_method_56_code, 2, (Option.some Jvm.ClassFile.FieldType.char), [], 4)
theorem ws_9 : (Jvm.Cond.code ({ cls := "java/lang/String", name := "charAt", desc := "(I)C" } : Jvm.MethodName) prog_23_method_56_code (2 : Nat) (Option.some Jvm.ClassFile.FieldType.char)) ∈ zW := zW_of 1686 (by decide +kernel) (by decide +kernel)
theorem ok_Str_charAt : zMok m_Str_charAt := ⟨by decide +kernel, ws_9, ws_1, by decide, by decide +kernel, by decide +kernel⟩
theorem ws_10 : (Jvm.Cond.fieldLink "java/lang/String" (38 : Nat) "java/lang/String" "COMPACT_STRINGS" "Z") ∈ zW := zW_of 1681 (by decide +kernel) (by decide +kernel)
theorem ws_11 : (Jvm.Cond.fieldLink "java/lang/String" (9 : Nat) "java/lang/String" "value" "[B") ∈ zW := zW_of 2089 (by decide +kernel) (by decide +kernel)
theorem ws_12 : (Jvm.Cond.fieldLink "java/lang/String" (15 : Nat) "java/lang/String" "coder" "B") ∈ zW := zW_of 2090 (by decide +kernel) (by decide +kernel)
theorem ws_13 : (Jvm.Cond.fieldLink "java/lang/String" (1053 : Nat) "jdk/internal/util/Preconditions" "SIOOBE_FORMATTER" "Ljava/util/function/BiFunction;") ∈ zW := zW_of 1697 (by decide +kernel) (by decide +kernel)
theorem t_none (own : String) : zTok own [] := fun q hq => by cases hq
theorem zG_none {l : Launch} {M : zM} {X : zX} {bc bs : Nat} {α : Type} {c : zC} {K : α → zC ⊕ zF} : zGl l M X bc bs none c K := fun x hx => by cases hx
theorem zrd_b {M : zM} {pc : Nat} {x : Int32} (hr : M.2.2.2.1 = some .byte) (hd : decode M.2.1 pc = .ok (.ireturn, 1)) (hx : narrow .byte (.int x) = .int x) : zrd M (some (zi x)) pc := ⟨⟨_, hr, hx⟩, hd⟩
theorem zrd_c {M : zM} {pc : Nat} {x : Int32} (hr : M.2.2.2.1 = some .char) (hd : decode M.2.1 pc = .ok (.ireturn, 1)) (hx : narrow .char (.int x) = .int x) : zrd M (some (zi x)) pc := ⟨⟨_, hr, hx⟩, hd⟩
theorem zG_ifT {l : Launch} {M : zM} {X : zX} {bc bs pc : Nat} {α : Type} {L : List (Option zV)} {st : List zV} {h : zH} {K : α → zC ⊕ zF} {e : Option α} {op : ClassFile.Cond} {off : Int} {tgt : Nat} {x : Int32} (hd : decode M.2.1 pc = .ok (.ifCond op off, 3)) (ht : (pc : Int) + off = (tgt : Int)) (hp : zcnd op x 0) (k : zGl l M X bc bs e (tgt, L, st, h) K) : zGl l M X bc bs e (pc, L, zi x :: st, h) K := fun y hy P xc xs hP => zV_if hd ht (fun _ => k y hy P xc xs hP) (fun q => absurd hp q)
theorem zG_ifF {l : Launch} {M : zM} {X : zX} {bc bs pc : Nat} {α : Type} {L : List (Option zV)} {st : List zV} {h : zH} {K : α → zC ⊕ zF} {e : Option α} {op : ClassFile.Cond} {off : Int} {tgt : Nat} {x : Int32} (hd : decode M.2.1 pc = .ok (.ifCond op off, 3)) (ht : (pc : Int) + off = (tgt : Int)) (hp : ¬ zcnd op x 0) (k : zGl l M X bc bs e (pc + 3, L, st, h) K) : zGl l M X bc bs e (pc, L, zi x :: st, h) K := fun y hy P xc xs hP => zV_if hd ht (fun q => absurd q hp) (fun _ => k y hy P xc xs hP)
theorem zV_callW {l : Launch} {g g' : Bool × Nat} {md : Nat} {M M' : zM} {X : zX} {bc bs mc ms pc idx n : Nat} {L : List (Option zV)} {st as rest : List zV} {h : zH} {f : zF} {P : zF → Prop} {j : Nat} (hj : j < 11) (hd : decode M.2.1 pc = .ok (.invokevirtual idx, 3)) (hct : zCt l g' md M' X mc ms (zr (some (202, zSO + 10 + j)) :: as) h f) (hcd : zcd M M' n) (hhh : M'.2.2.2.2.1 = []) (hlk : Cond.methodLink M.1.cls idx M'.1 ∈ zW) (hin : Cond.instanceMethod M'.1 ∈ zW) (hse : Cond.selects M'.1.cls M'.1 M'.1 ∈ zW)
    (hcn : "java/lang/String" = M'.1.cls) (hst : st = as.reverse ++ zr (some (202, zSO + 10 + j)) :: rest) (hn : as.length = n) (hrs : (rest.map zcat).sum ≤ 8) (hst9 : g'.1 = true ∨ g.1 = false) (go : zgo l g g' M X bc bs pc L rest h f P) : zVV l g md M X (bc + mc) (bs + ms) (pc, L, st, h) P := by
  intro p e R s m args below meth cd D cA ad0 A Q hC hf hl ad H locs ls cells slots ha hG hc1 hs1 hF
  obtain ⟨g1, g2, g3, g4, g5, g6⟩ := hG
  have hC' := hC
  obtain ⟨hx, hb, hr, hml, hown, hts, hlk2, htb, hnm, hKK, hE, hA, -⟩ := hC'
  have g6 : zSok h st := g6
  rw [hst] at g6
  have hso : zSok h (zr (some (202, zSO + 10 + j)) :: as) := fun v hv => g6 v (by
    rcases List.mem_cons.mp hv with e | e
    · exact List.mem_append_right _ (e ▸ List.mem_cons_self)
    · exact List.mem_append_left _ (List.mem_reverse.mpr e))
  have hro : zSok h rest := fun v hv => g6 v (List.mem_append_right _ (List.mem_cons_of_mem _ hv))
  obtain ⟨-, -, -, -, -, hS6, -⟩ := hE.ag ha
  have hmm : zmw M' = Cond.code M'.1 M'.2.1 M'.2.2.1 M'.2.2.2.1 :: zW := by unfold zmw zcw; rw [hhh]
  obtain ⟨hMo, hdp, hpn⟩ := id hcd
  obtain ⟨m1, m2, m3, m4, m5⟩ := hMo
  have cw : CallW R s args M.1.cls M'.1.cls idx M'.1 M'.2.1 M'.2.2.1 M'.2.2.2.1 (zmw M') (zrm M'.2.2.2.2.2 mc ms) mc ms n :=
    ⟨callB_of n hts (zGoodW m2 zW (fun _ h => h)) hmm rfl rfl (hts _ m3) (hts _ hlk) ⟨m5.1, m5.2, hpn⟩ (zcd_room hcd hf hl mc ms), hts _ hin, hts _ hse⟩
  have hcall : vx_Run p l e R s m args below meth cd H locs cells slots mc ms (F0 m pc ls (st.map (zcv ad))) (rest.map (zcv ad)) (zQc g' D cA ad A h f (Value.ref (ad (zSO + 10 + j)) :: as.map (zcv ad)).toArray) (zXC g' D cA ad A h f) A := by
    refine vx_runV (As := as.map (zcv ad)) (b := ad (zSO + 10 + j)) (Ts := zW) (own := M.1.cls) (cc := M.2.1) (nL := M.2.2.1) ⟨hx, hb, hml, hown, hts⟩ (hct D cA ad A) cw ⟨zPc_blind, ?_, fun U hU hW => ?_⟩ rfl (by simpa using hn) g3.1 ?_ ?_ hd ⟨by omega, by omega⟩
    · rw [← hcn]
      exact vk_recv (adK := fun i => ad (zSO + 10 + i)) (i := j) hS6 hj g2
    · exact zPc_at hC ha g1 g2 hso U hU hW
    · show st.map (zcv ad) = _
      rw [hst]
      simp [List.map_reverse, zcv, va_rf, zadr]
    · exact lv_room (by rw [zcats]; exact hrs)
  exact zW_go (st := st) hC hf hl ha g2 g3 g4 g5 hro hc1 hs1 hF hcall hst9 go
theorem zG_callW {l : Launch} {M M' : zM} {X : zX} {bc bs pc : Nat} {α β : Type} {L : List (Option zV)} {st : List zV} {h : zH} {K : α → zC ⊕ zF} {e : Option β} {f : β → Option α} {R : β → Option zV × zH} {j idx n : Nat} {as rest : List zV} (hj : j < 11) (hct : ∀ a, e = some a → zCt l (true, 2) 2 M' X 0 0 (zr (some (202, zSO + 10 + j)) :: as) h (.inl (R a).1, (R a).2)) (hd : decode M.2.1 pc = .ok (.invokevirtual idx, 3)) (hcd : zcd M M' n) (hhh : M'.2.2.2.2.1 = []) (hlk : Cond.methodLink M.1.cls idx M'.1 ∈ zW) (hin : Cond.instanceMethod M'.1 ∈ zW) (hse : Cond.selects M'.1.cls M'.1 M'.1 ∈ zW) (hcn : "java/lang/String" = M'.1.cls) (hst : st = as.reverse ++ zr (some (202, zSO + 10 + j)) :: rest) (hn : as.length = n) (hrs : (rest.map zcat).sum ≤ 8)
    (k : ∀ a, zGl l M X bc bs (f a) (pc + 3, L, (R a).1.toList ++ rest, (R a).2) K) : zGl l M X bc bs (e.bind f) (pc, L, st, h) K := by
  intro x hx P xc xs hP
  cases he : e with
  | none => rw [he] at hx; cases hx
  | some a =>
    rw [he] at hx
    refine zV_callW (g' := (true, 2)) (bc := xc + bc) (bs := xs + bs) (mc := 0) (ms := 0) hj hd (hct a he) hcd hhh hlk hin hse hcn hst hn hrs (Or.inl rfl) ⟨fun r hr _ => ?_, fun k hk => by cases hk⟩
    cases hr
    exact k a x hx P xc xs hP
theorem k_Str_coder {l : Launch} {X : zX} {h : zH} (hl : l.stackTraces = false) {j : Nat} (hj : j < 11) : zGl l m_Str_coder X 0 0 (some (0 : Int32)) (0, [some (zr (some (202, zSO + 10 + j)))], [], h) (fun x => .inr ((fun a => (.inl (some (zi a)), h) : Int32 → zF) x)) := by
  refine zG_st (zS_gsC ws_10 (by decide +kernel)) zle.refl' ?_
  refine zG_ifF (tgt := 13) (op := .eq) (off := 10) (by decide +kernel) rfl (show ¬ ((1 : Int32) = 0) by decide) ?_
  refine zG_run (t_none _) [(.aload_n 0, 0, 0)] (7, [some (zr (some (202, zSO + 10 + j)))], [zr (some (202, zSO + 10 + j))], h) (by decide +kernel) rfl ?_
  refine zG_st (zS_strc hj ws_12 (by decide +kernel)) zle.refl' ?_
  refine zG_run (t_none _) [(.goto 4, 0, 0)] (14, [some (zr (some (202, zSO + 10 + j)))], [zi 0], h) (by decide +kernel) rfl ?_
  exact zG_ret (r := some (zi 0)) rfl (zrd_b rfl (by decide +kernel) rfl)
theorem c_Str_coder {l : Launch} {X : zX} {h : zH} (hl : l.stackTraces = false) {j : Nat} (hj : j < 11) {x : Int32} (hx : some (0 : Int32) = some x) : zCt l (true, 2) 2 m_Str_coder X 0 0 [zr (some (202, zSO + 10 + j))] h ((fun a => (.inl (some (zi a)), h) : Int32 → zF) x) :=
  zG_ct (R := fun a => (.inl (some (zi a)), h)) (x := x) ok_Str_coder hl (Nat.le_of_ble_eq_true rfl) hx (k_Str_coder hl hj)
theorem ws_14 : (Jvm.Cond.methodLink "java/lang/String" (335 : Nat) ({ cls := "java/lang/String", name := "coder", desc := "()B" } : Jvm.MethodName)) ∈ zW := zW_of 1677 (by decide +kernel) (by decide +kernel)
theorem ws_15 : (Jvm.Cond.instanceMethod ({ cls := "java/lang/String", name := "coder", desc := "()B" } : Jvm.MethodName)) ∈ zW := zW_of 1678 (by decide +kernel) (by decide +kernel)
theorem ws_16 : (Jvm.Cond.selects "java/lang/String" ({ cls := "java/lang/String", name := "coder", desc := "()B" } : Jvm.MethodName) ({ cls := "java/lang/String", name := "coder", desc := "()B" } : Jvm.MethodName)) ∈ zW := zW_of 1679 (by decide +kernel) (by decide +kernel)
theorem zshr0 (x : Int32) : zshr x 0 = x := by
  unfold zshr
  have : (0 : Int32) &&& 31 = 0 := rfl
  rw [this]
  exact Int32.shiftRight_zero
theorem k_Str_length {l : Launch} {X : zX} {h : zH} (hl : l.stackTraces = false) {j : Nat} (hj : j < 11) : zGl l m_Str_length X 0 0 (some (Int32.ofNat (zslen.getD j 0))) (0, [some (zr (some (202, zSO + 10 + j)))], [], h) (fun x => .inr ((fun a => (.inl (some (zi a)), h) : Int32 → zF) x)) := by
  have e0 : (some (Int32.ofNat (zslen.getD j 0)) : Option Int32) = (some (0 : Int32)).bind fun c => some (zshr (Int32.ofNat (zslen.getD j 0)) c) := by
    rw [Option.bind_some, zshr0]
  rw [e0]
  refine zG_run (t_none _) [(.aload_n 0, 0, 0)] (1, [some (zr (some (202, zSO + 10 + j)))], [zr (some (202, zSO + 10 + j))], h) (by decide +kernel) rfl ?_
  refine zG_st (zS_strv hj ws_11 (by decide +kernel)) zle.refl' ?_
  refine zG_st (zS_strl hj (by decide +kernel)) zle.refl' ?_
  refine zG_run (t_none _) [(.aload_n 0, 0, 0)] (6, [some (zr (some (202, zSO + 10 + j)))], [zr (some (202, zSO + 10 + j)), zi (Int32.ofNat (zslen.getD j 0))], h) (by decide +kernel) rfl ?_
  refine zG_callW (idx := 335) (R := (fun a => (some (zi a), h))) (as := []) (rest := [zi (Int32.ofNat (zslen.getD j 0))]) (n := 0) hj (fun a ha => c_Str_coder hl hj ha) (by decide +kernel) ⟨ok_Str_coder, by decide, by decide +kernel⟩ rfl ws_14 ws_15 ws_16 rfl rfl rfl (Nat.le_of_ble_eq_true rfl) fun c => ?_
  refine zG_run (t_none _) [(.ishr, 0, 0)] (10, [some (zr (some (202, zSO + 10 + j)))], [zi (zshr (Int32.ofNat (zslen.getD j 0)) c)], h) (by decide +kernel) rfl ?_
  exact zG_ret (r := some (zi (zshr (Int32.ofNat (zslen.getD j 0)) c))) rfl (zrd_i rfl (by decide +kernel))
theorem c_Str_length {l : Launch} {X : zX} {h : zH} (hl : l.stackTraces = false) {j : Nat} (hj : j < 11) {x : Int32} (hx : some (Int32.ofNat (zslen.getD j 0)) = some x) : zCt l (true, 2) 2 m_Str_length X 0 0 [zr (some (202, zSO + 10 + j))] h ((fun a => (.inl (some (zi a)), h) : Int32 → zF) x) :=
  zG_ct (R := fun a => (.inl (some (zi a)), h)) (x := x) ok_Str_length hl (Nat.le_of_ble_eq_true rfl) hx (k_Str_length hl hj)
theorem k_Str_isLatin1 {l : Launch} {X : zX} {h : zH} (hl : l.stackTraces = false) {j : Nat} (hj : j < 11) : zGl l m_Str_isLatin1 X 0 0 (some (1 : Int32)) (0, [some (zr (some (202, zSO + 10 + j)))], [], h) (fun x => .inr ((fun a => (.inl (some (zi a)), h) : Int32 → zF) x)) := by
  refine zG_st (zS_gsC ws_10 (by decide +kernel)) zle.refl' ?_
  refine zG_ifF (tgt := 17) (op := .eq) (off := 14) (by decide +kernel) rfl (show ¬ ((1 : Int32) = 0) by decide) ?_
  refine zG_run (t_none _) [(.aload_n 0, 0, 0)] (7, [some (zr (some (202, zSO + 10 + j)))], [zr (some (202, zSO + 10 + j))], h) (by decide +kernel) rfl ?_
  refine zG_st (zS_strc hj ws_12 (by decide +kernel)) zle.refl' ?_
  refine zG_ifF (tgt := 17) (op := .ne) (off := 7) (by decide +kernel) rfl (fun q => q rfl) ?_
  refine zG_run (t_none _) [(.iconst 1, 0, 0), (.goto 4, 0, 0)] (18, [some (zr (some (202, zSO + 10 + j)))], [zi 1], h) (by decide +kernel) rfl ?_
  exact zG_ret (r := some (zi 1)) rfl (zrd_z rfl (by decide +kernel) rfl)
theorem c_Str_isLatin1 {l : Launch} {X : zX} {h : zH} (hl : l.stackTraces = false) {j : Nat} (hj : j < 11) {x : Int32} (hx : some (1 : Int32) = some x) : zCt l (true, 2) 2 m_Str_isLatin1 X 0 0 [zr (some (202, zSO + 10 + j))] h ((fun a => (.inl (some (zi a)), h) : Int32 → zF) x) :=
  zG_ct (R := fun a => (.inl (some (zi a)), h)) (x := x) ok_Str_isLatin1 hl (Nat.le_of_ble_eq_true rfl) hx (k_Str_isLatin1 hl hj)
def f_Pre_checkIndex (v0 v1 : Int32) : Option Int32 := if v0 < 0 then none else if v0 < v1 then some v0 else none
theorem k_Pre_checkIndex {l : Launch} {X : zX} {h : zH} (hl : l.stackTraces = false) {v0 v1 : Int32} : zGl l m_Pre_checkIndex X 0 0 (f_Pre_checkIndex v0 v1) (0, [some (zi v0), some (zi v1), some (zr (zsF X))], [], h) (fun x => .inr ((fun a => (.inl (some (zi a)), h) : Int32 → zF) x)) := by
  unfold f_Pre_checkIndex
  refine zG_run (t_none _) [(.iload_n 0, 0, 0)] (1, [some (zi v0), some (zi v1), some (zr (zsF X))], [zi v0], h) (by decide +kernel) rfl ?_
  refine zG_if (op := .lt) (off := 8) (tgt := 9) (by decide +kernel) rfl Iff.rfl (fun _ => zG_none) (fun _ => ?_)
  refine zG_run (t_none _) [(.iload_n 0, 0, 0), (.iload_n 1, 0, 0)] (6, [some (zi v0), some (zi v1), some (zr (zsF X))], [zi v1, zi v0], h) (by decide +kernel) rfl ?_
  refine zG_icmp (op := .lt) (off := 10) (tgt := 16) (by decide +kernel) rfl Iff.rfl (fun _ => ?_) (fun _ => zG_none)
  refine zG_run (t_none _) [(.iload_n 0, 0, 0)] (17, [some (zi v0), some (zi v1), some (zr (zsF X))], [zi v0], h) (by decide +kernel) rfl ?_
  exact zG_ret (r := some (zi v0)) rfl (zrd_i rfl (by decide +kernel))
theorem c_Pre_checkIndex {l : Launch} {X : zX} {h : zH} (hl : l.stackTraces = false) {v0 v1 : Int32} {x : Int32} (hx : f_Pre_checkIndex v0 v1 = some x) : zCt l (true, 2) 2 m_Pre_checkIndex X 0 0 [zi v0, zi v1, zr (zsF X)] h ((fun a => (.inl (some (zi a)), h) : Int32 → zF) x) :=
  zG_ct (R := fun a => (.inl (some (zi a)), h)) (x := x) ok_Pre_checkIndex hl (Nat.le_of_ble_eq_true rfl) hx (k_Pre_checkIndex hl)
theorem ws_17 : (Jvm.Cond.methodLink "java/lang/String" (1059 : Nat) ({ cls := "jdk/internal/util/Preconditions", name := "checkIndex", desc := "(IILjava/util/function/BiFunction;)I" } : Jvm.MethodName)) ∈ zW := zW_of 1699 (by decide +kernel) (by decide +kernel)
theorem ws_18 : (Jvm.Cond.static ({ cls := "jdk/internal/util/Preconditions", name := "checkIndex", desc := "(IILjava/util/function/BiFunction;)I" } : Jvm.MethodName)) ∈ zW := zW_of 1700 (by decide +kernel) (by decide +kernel)
def f_Str_checkIndex (v0 v1 : Int32) : Option Unit := (f_Pre_checkIndex v0 v1).bind fun _ => some ()
theorem k_Str_checkIndex {l : Launch} {X : zX} {h : zH} (hl : l.stackTraces = false) {v0 v1 : Int32} : zGl l m_Str_checkIndex X 0 0 (f_Str_checkIndex v0 v1) (0, [some (zi v0), some (zi v1)], [], h) (fun x => .inr ((fun _ => (.inl none, h) : Unit → zF) x)) := by
  unfold f_Str_checkIndex
  refine zG_run (t_none _) [(.iload_n 0, 0, 0), (.iload_n 1, 0, 0)] (2, [some (zi v0), some (zi v1)], [zi v1, zi v0], h) (by decide +kernel) rfl ?_
  refine zG_st (zS_gsF ws_13 (by decide +kernel)) zle.refl' ?_
  refine zG_callS (idx := 1059) (R := (fun a => (some (zi a), h))) (as := [zi v0, zi v1, zr (zsF X)]) (rest := []) (n := 3) (fun a ha => c_Pre_checkIndex hl ha) (by decide +kernel) ⟨ok_Pre_checkIndex, by decide, by decide +kernel⟩ rfl ws_17 ws_18 rfl rfl (Nat.le_of_ble_eq_true rfl) fun c => ?_
  refine zG_run (t_none _) [(.pop, 0, 0)] (9, [some (zi v0), some (zi v1)], [], h) (by decide +kernel) rfl ?_
  exact zG_ret (r := none) rfl (zrd_v rfl (by decide +kernel))
theorem c_Str_checkIndex {l : Launch} {X : zX} {h : zH} (hl : l.stackTraces = false) {v0 v1 : Int32} {x : Unit} (hx : f_Str_checkIndex v0 v1 = some x) : zCt l (true, 2) 2 m_Str_checkIndex X 0 0 [zi v0, zi v1] h ((fun _ => (.inl none, h) : Unit → zF) x) :=
  zG_ct (R := fun _ => (.inl none, h)) (x := x) ok_Str_checkIndex hl (Nat.le_of_ble_eq_true rfl) hx (k_Str_checkIndex hl)
theorem ws_19 : (Jvm.Cond.methodLink "java/lang/StringLatin1" (9 : Nat) ({ cls := "java/lang/String", name := "checkIndex", desc := "(II)V" } : Jvm.MethodName)) ∈ zW := zW_of 1694 (by decide +kernel) (by decide +kernel)
theorem ws_20 : (Jvm.Cond.static ({ cls := "java/lang/String", name := "checkIndex", desc := "(II)V" } : Jvm.MethodName)) ∈ zW := zW_of 1695 (by decide +kernel) (by decide +kernel)
def zch (j : Nat) (v1 : Int32) : Int32 := (((((zsbyt.getD j []).getD v1.toNatClampNeg 0) &&& 255).toUInt32 % 65536).toInt32)
theorem zch_nar (x : Int32) : narrow .char (.int (x.toUInt32 % 65536).toInt32) = .int (x.toUInt32 % 65536).toInt32 := by
  have e : ((x.toUInt32 % 65536).toInt32.toUInt32 % 65536) = x.toUInt32 % 65536 := by
    rw [UInt32.toUInt32_toInt32]
    exact UInt32.toNat_inj.mp (by simp)
  exact congrArg (fun y => Value.int (UInt32.toInt32 y)) e
def f_Lat_charAt (j : Nat) (v1 : Int32) : Option Int32 := (f_Str_checkIndex v1 (Int32.ofNat (zslen.getD j 0))).bind fun _ => zg (zb v1 (zslen.getD j 0)) (some (zch j v1))
theorem k_Lat_charAt {l : Launch} {X : zX} {h : zH} (hl : l.stackTraces = false) {j : Nat} {v1 : Int32} (hj : j < 11) : zGl l m_Lat_charAt X 0 0 (f_Lat_charAt j v1) (0, [some (zr (some (203, zSO + 30 + j))), some (zi v1)], [], h) (fun x => .inr ((fun a => (.inl (some (zi a)), h) : Int32 → zF) x)) := by
  unfold f_Lat_charAt
  refine zG_run (t_none _) [(.iload_n 1, 0, 0), (.aload_n 0, 0, 0)] (2, [some (zr (some (203, zSO + 30 + j))), some (zi v1)], [zr (some (203, zSO + 30 + j)), zi v1], h) (by decide +kernel) rfl ?_
  refine zG_st (zS_strl hj (by decide +kernel)) zle.refl' ?_
  refine zG_callS (idx := 9) (R := (fun _ => (none, h))) (as := [zi v1, zi (Int32.ofNat (zslen.getD j 0))]) (rest := []) (n := 2) (fun a ha => c_Str_checkIndex hl ha) (by decide +kernel) ⟨ok_Str_checkIndex, by decide, by decide +kernel⟩ rfl ws_19 ws_20 rfl rfl (Nat.le_of_ble_eq_true rfl) fun c => ?_
  refine zG_guard fun hb => ?_
  refine zG_run (t_none _) [(.aload_n 0, 0, 0), (.iload_n 1, 0, 0)] (8, [some (zr (some (203, zSO + 30 + j))), some (zi v1)], [zi v1, zr (some (203, zSO + 30 + j))], h) (by decide +kernel) rfl ?_
  refine zG_st (zS_strb hj (by decide +kernel) hb) zle.refl' ?_
  refine zG_run (t_none _) [(.sipush 255, 0, 0), (.iand, 0, 0), (.i2c, 0, 0)] (14, [some (zr (some (203, zSO + 30 + j))), some (zi v1)], [zi (zch j v1)], h) (by decide +kernel) rfl ?_
  exact zG_ret (r := some (zi (zch j v1))) rfl (zrd_c rfl (by decide +kernel) (zch_nar _))
theorem c_Lat_charAt {l : Launch} {X : zX} {h : zH} (hl : l.stackTraces = false) {j : Nat} {v1 : Int32} (hj : j < 11) {x : Int32} (hx : f_Lat_charAt j v1 = some x) : zCt l (true, 2) 2 m_Lat_charAt X 0 0 [zr (some (203, zSO + 30 + j)), zi v1] h ((fun a => (.inl (some (zi a)), h) : Int32 → zF) x) :=
  zG_ct (R := fun a => (.inl (some (zi a)), h)) (x := x) ok_Lat_charAt hl (Nat.le_of_ble_eq_true rfl) hx (k_Lat_charAt hl hj)
theorem ws_21 : (Jvm.Cond.methodLink "java/lang/String" (492 : Nat) ({ cls := "java/lang/String", name := "isLatin1", desc := "()Z" } : Jvm.MethodName)) ∈ zW := zW_of 1687 (by decide +kernel) (by decide +kernel)
theorem ws_22 : (Jvm.Cond.instanceMethod ({ cls := "java/lang/String", name := "isLatin1", desc := "()Z" } : Jvm.MethodName)) ∈ zW := zW_of 1688 (by decide +kernel) (by decide +kernel)
theorem ws_23 : (Jvm.Cond.selects "java/lang/String" ({ cls := "java/lang/String", name := "isLatin1", desc := "()Z" } : Jvm.MethodName) ({ cls := "java/lang/String", name := "isLatin1", desc := "()Z" } : Jvm.MethodName)) ∈ zW := zW_of 1689 (by decide +kernel) (by decide +kernel)
theorem ws_24 : (Jvm.Cond.methodLink "java/lang/String" (495 : Nat) ({ cls := "java/lang/StringLatin1", name := "charAt", desc := "([BI)C" } : Jvm.MethodName)) ∈ zW := zW_of 1691 (by decide +kernel) (by decide +kernel)
theorem ws_25 : (Jvm.Cond.static ({ cls := "java/lang/StringLatin1", name := "charAt", desc := "([BI)C" } : Jvm.MethodName)) ∈ zW := zW_of 1692 (by decide +kernel) (by decide +kernel)
theorem ws_26 : (Jvm.Cond.instanceMethod ({ cls := "java/lang/String", name := "length", desc := "()I" } : Jvm.MethodName)) ∈ zW := zW_of 1674 (by decide +kernel) (by decide +kernel)
theorem ws_27 : (Jvm.Cond.selects "java/lang/String" ({ cls := "java/lang/String", name := "length", desc := "()I" } : Jvm.MethodName) ({ cls := "java/lang/String", name := "length", desc := "()I" } : Jvm.MethodName)) ∈ zW := zW_of 1675 (by decide +kernel) (by decide +kernel)
theorem ws_28 : (Jvm.Cond.instanceMethod ({ cls := "java/lang/String", name := "charAt", desc := "(I)C" } : Jvm.MethodName)) ∈ zW := zW_of 1684 (by decide +kernel) (by decide +kernel)
theorem ws_29 : (Jvm.Cond.selects "java/lang/String" ({ cls := "java/lang/String", name := "charAt", desc := "(I)C" } : Jvm.MethodName) ({ cls := "java/lang/String", name := "charAt", desc := "(I)C" } : Jvm.MethodName)) ∈ zW := zW_of 1685 (by decide +kernel) (by decide +kernel)
theorem k_Str_charAt {l : Launch} {X : zX} {h : zH} (hl : l.stackTraces = false) {j : Nat} {v1 : Int32} (hj : j < 11) : zGl l m_Str_charAt X 0 0 ((some (1 : Int32)).bind fun _ => (f_Lat_charAt j v1).bind fun c => zg (decide (narrow .char (.int c) = .int c)) (some c)) (0, [some (zr (some (202, zSO + 10 + j))), some (zi v1)], [], h) (fun x => .inr ((fun a => (.inl (some (zi a)), h) : Int32 → zF) x)) := by
  refine zG_run (t_none _) [(.aload_n 0, 0, 0)] (1, [some (zr (some (202, zSO + 10 + j))), some (zi v1)], [zr (some (202, zSO + 10 + j))], h) (by decide +kernel) rfl ?_
  refine zG_callW (idx := 492) (R := (fun a => (some (zi 1), h))) (as := []) (rest := []) (n := 0) hj (fun a ha => by cases ha; exact c_Str_isLatin1 (x := 1) hl hj rfl) (by decide +kernel) ⟨ok_Str_isLatin1, by decide, by decide +kernel⟩ rfl ws_21 ws_22 ws_23 rfl rfl rfl (Nat.le_of_ble_eq_true rfl) fun c => ?_
  refine zG_ifF (tgt := 16) (op := .eq) (off := 12) (by decide +kernel) rfl (show ¬ ((1 : Int32) = 0) by decide) ?_
  refine zG_run (t_none _) [(.aload_n 0, 0, 0)] (8, [some (zr (some (202, zSO + 10 + j))), some (zi v1)], [zr (some (202, zSO + 10 + j))], h) (by decide +kernel) rfl ?_
  refine zG_st (zS_strv hj ws_11 (by decide +kernel)) zle.refl' ?_
  refine zG_run (t_none _) [(.iload_n 1, 0, 0)] (12, [some (zr (some (202, zSO + 10 + j))), some (zi v1)], [zi v1, zr (some (203, zSO + 30 + j))], h) (by decide +kernel) rfl ?_
  refine zG_callS (idx := 495) (R := (fun a => (some (zi a), h))) (as := [zr (some (203, zSO + 30 + j)), zi v1]) (rest := []) (n := 2) (fun a ha => c_Lat_charAt hl hj ha) (by decide +kernel) ⟨ok_Lat_charAt, by decide, by decide +kernel⟩ rfl ws_24 ws_25 rfl rfl (Nat.le_of_ble_eq_true rfl) fun c => ?_
  refine zG_guard fun hb => ?_
  exact zG_ret (r := some (zi c)) rfl (zrd_c rfl (by decide +kernel) (of_decide_eq_true hb))
theorem c_Str_charAt {l : Launch} {X : zX} {h : zH} (hl : l.stackTraces = false) {j : Nat} {v1 : Int32} (hj : j < 11) {x : Int32} (hx : f_Lat_charAt j v1 = some x) : zCt l (true, 2) 2 m_Str_charAt X 0 0 [zr (some (202, zSO + 10 + j)), zi v1] h ((fun a => (.inl (some (zi a)), h) : Int32 → zF) x) := by
  refine zG_ct (R := fun a => (.inl (some (zi a)), h)) (x := x) ok_Str_charAt hl (Nat.le_of_ble_eq_true rfl) (?_ : _ = some x) (k_Str_charAt hl hj)
  rw [Option.bind_some, hx, Option.bind_some]
  have hc : x = zch j v1 := by
    unfold f_Lat_charAt at hx
    cases hq : f_Str_checkIndex v1 (Int32.ofNat (zslen.getD j 0)) with
    | none => rw [hq] at hx; cases hx
    | some u =>
      rw [hq, Option.bind_some] at hx
      exact (Option.some.inj (zg_t hx).2).symm
  have hn : decide (narrow .char (.int x) = .int x) = true := decide_eq_true (by rw [hc]; exact zch_nar _)
  rw [hn]
  rfl
/-- as the reference calls them -/
def f_Str_length (o : Nat) : Option Int32 := zg (Nat.ble 1000010 o && Nat.blt o 1000021) (some (Int32.ofNat (zslen.getD (o - 1000010) 0)))
def f_Str_charAt (o : Nat) (v1 : Int32) : Option Int32 := zg (Nat.ble 1000010 o && Nat.blt o 1000021) (f_Lat_charAt (o - 1000010) v1)
theorem zso_in {o : Nat} (h : (Nat.ble 1000010 o && Nat.blt o 1000021) = true) : ∃ j, j < 11 ∧ o = zSO + 10 + j ∧ o - 1000010 = j := by
  rw [Bool.and_eq_true] at h
  obtain ⟨h1, h2⟩ := h
  have h1 := Nat.le_of_ble_eq_true h1
  have h2 := Nat.le_of_ble_eq_true h2
  refine ⟨o - 1000010, by omega, ?_, rfl⟩
  show o = 1000000 + 10 + (o - 1000010)
  omega
section
variable {l : Launch} {M : zM} {X : zX} {bc bs pc idx : Nat} {α : Type} {L : List (Option zV)} {rest : List zV} {h : zH} {K : α → zC ⊕ zF} {f : Int32 → Option α} {o : Nat}
theorem zG_Str_length (hl : l.stackTraces = false) (hlk : Cond.methodLink M.1.cls idx m_Str_length.1 ∈ zW) (hd : decode M.2.1 pc = .ok (.invokevirtual idx, 3)) (hrs : (rest.map zcat).sum ≤ 8) (hdp : 6 ≤ M.2.2.2.2.2) (k : ∀ a, zGl l M X bc bs (f a) (pc + 3, L, zi a :: rest, h) K) : zGl l M X bc bs ((f_Str_length o).bind f) (pc, L, zr (some (202, o)) :: rest, h) K := by
  intro x hx P xc xs hP
  cases he : f_Str_length o with
  | none => rw [he] at hx; cases hx
  | some a =>
    obtain ⟨h1, h2⟩ := zg_t he
    obtain ⟨j, hj, rfl, h3⟩ := zso_in h1
    rw [h3] at h2
    refine zG_callW (e := some a) (f := f) (R := fun a => (some (zi a), h)) (j := j) (as := []) (rest := rest) (n := 0) hj (fun b hb => by cases hb; exact c_Str_length hl hj h2) hd ⟨ok_Str_length, by have : m_Str_length.2.2.2.2.2 = 2 := rfl; omega, by decide +kernel⟩ rfl hlk ws_26 ws_27 rfl rfl rfl hrs k x (by rw [he] at hx; exact hx) P xc xs hP
theorem zG_Str_charAt {v : Int32} (hl : l.stackTraces = false) (hlk : Cond.methodLink M.1.cls idx m_Str_charAt.1 ∈ zW) (hd : decode M.2.1 pc = .ok (.invokevirtual idx, 3)) (hrs : (rest.map zcat).sum ≤ 8) (hdp : 6 ≤ M.2.2.2.2.2) (k : ∀ a, zGl l M X bc bs (f a) (pc + 3, L, zi a :: rest, h) K) : zGl l M X bc bs ((f_Str_charAt o v).bind f) (pc, L, zi v :: zr (some (202, o)) :: rest, h) K := by
  intro x hx P xc xs hP
  cases he : f_Str_charAt o v with
  | none => rw [he] at hx; cases hx
  | some a =>
    obtain ⟨h1, h2⟩ := zg_t he
    obtain ⟨j, hj, rfl, h3⟩ := zso_in h1
    rw [h3] at h2
    refine zG_callW (e := some a) (f := f) (R := fun a => (some (zi a), h)) (j := j) (as := [zi v]) (rest := rest) (n := 1) hj (fun b hb => by cases hb; exact c_Str_charAt hl hj h2) hd ⟨ok_Str_charAt, by have : m_Str_charAt.2.2.2.2.2 = 4 := rfl; omega, by decide +kernel⟩ rfl hlk ws_28 ws_29 rfl rfl rfl hrs k x (by rw [he] at hx; exact hx) P xc xs hP
end
