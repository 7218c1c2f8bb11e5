/-! ===== contracts and calls ===== -/
def zrm (d bc bs : Nat) : Room := { frames := d, cells := bc, slots := bs, locals := 80 * d }
def zcw (M : zM) : Cond := match M.2.2.2.2.1 with
  | [] => .code M.1 M.2.1 M.2.2.1 M.2.2.2.1
  | q :: r => .codeWith M.1 M.2.1 M.2.2.1 M.2.2.2.1 (q :: r)
def zmw (M : zM) : List Cond := zcw M :: zW
def zPc (md : Nat) (D : va_G) (cA : Nat → ClassId) (ad : Nat → Nat) (A : Nat → Prop) (X : zX) (args : List zV) (h : zH) : Array Value → State → Prop := fun a U =>
  a = (args.map (zcv ad)).toArray ∧ zWd md D cA ad A h U.heap ∧ zEnv X ad A U U.heap ∧ va_K D classes (ztys cA) U ∧ zSok h args ∧ (∀ q, U.heap.size ≤ q → A q)
def zQc (g : Bool × Nat) (D : va_G) (cA : Nat → ClassId) (ad : Nat → Nat) (A : Nat → Prop) (h : zH) (f : zF) : Array Value → State → Outcome → State → Prop := fun _ st o t =>
  ∃ (r : Option zV) (ad' : Nat → Nat), f.1 = .inl r ∧ o = .returned (r.map (zcv ad')) ∧ zag (ztop h) ad ad' ∧ zle g.1 h f.2 ∧ zWd g.2 D cA ad' A f.2 t.heap ∧ (∀ v, r = some v → zvok f.2 v) ∧ va_F A st t
def zXC (g : Bool × Nat) (D : va_G) (cA : Nat → ClassId) (ad : Nat → Nat) (A : Nat → Prop) (h : zH) (f : zF) : String → State → State → Prop := fun E st t =>
  ∃ (k : Nat) (ad' : Nat → Nat), f.1 = .inr k ∧ E = zexn k ∧ zag (ztop h) ad ad' ∧ zle g.1 h f.2 ∧ zWd g.2 D cA ad' A f.2 t.heap ∧ va_F A st t
/-- called with these arguments in this heap, M comes to the end f, making at most bc cells of bs places -/
def zCt (l : Launch) (g : Bool × Nat) (md : Nat) (M : zM) (X : zX) (bc bs : Nat) (args : List zV) (h : zH) (f : zF) : Prop :=
  ∀ (D : va_G) (cA : Nat → ClassId) (ad : Nat → Nat) (A : Nat → Prop), vx_Met l M.1 (zmw M) (zrm M.2.2.2.2.2 bc bs) (zPc md D cA ad A X args h) (zQc g D cA ad A h f) (zXC g D cA ad A h f) bc bs A
def zeL : List zV → List (Option zV)
  | [] => []
  | v :: r => match zcat v with
    | 2 => some v :: none :: zeL r
    | _ => some v :: zeL r
theorem zE_rep {ad : Nat → Nat} : ∀ (n b : Nat), zE ad b (List.replicate n none) = []
  | 0, _ => rfl
  | n + 1, b => zE_rep n (b + 1)
theorem zeL_E {ad : Nat → Nat} (n : Nat) : ∀ (vs : List zV) (b : Nat), zE ad b (zeL vs ++ List.replicate n none) = lv_args b (vs.map (zcv ad))
  | [], b => zE_rep n b
  | v :: r, b => by
    have hc := zcat_cv ad v
    rcases v with x | x | x
    · show (b, _) :: zE ad (b + 1) (zeL r ++ List.replicate n none) = (b, _) :: lv_args (if _ then _ else _) _
      rw [zeL_E n r, if_neg (by rw [hc]; show ¬ (1 : Nat) = 2; decide)]
    · show (b, _) :: zE ad (b + 1 + 1) (zeL r ++ List.replicate n none) = (b, _) :: lv_args (if _ then _ else _) _
      rw [zeL_E n r, if_pos (by rw [hc]; rfl)]
    · show (b, _) :: zE ad (b + 1) (zeL r ++ List.replicate n none) = (b, _) :: lv_args (if _ then _ else _) _
      rw [zeL_E n r, if_neg (by rw [hc]; show ¬ (1 : Nat) = 2; decide)]
theorem zeL_ok {h : zH} {n : Nat} : ∀ (vs : List zV), zSok h vs → zLok h (zeL vs ++ List.replicate n none)
  | [], _, v, hv => by
    have := List.mem_replicate.mp hv
    cases this.2
  | a :: r, hs, v, hv => by
    have ih := zeL_ok (n := n) r hs.tl
    have hv : some v ∈ zeL (a :: r) ++ List.replicate n none := hv
    rcases a with x | x | x
    · rcases List.mem_cons.mp hv with e | e
      · exact Option.some.inj e ▸ trivial
      · exact ih v e
    · rcases List.mem_cons.mp hv with e | e
      · exact Option.some.inj e ▸ trivial
      · rcases List.mem_cons.mp e with e | e
        · cases e
        · exact ih v e
    · rcases List.mem_cons.mp hv with e | e
      · exact Option.some.inj e ▸ hs _ List.mem_cons_self
      · exact ih v e
theorem zgood : ∀ w ∈ zW, (w.onTables && w.keeps) = true ∨ ∃ ty, w = .arrayClass ty := fun w hw => good_of_word (List.mem_filter.mp hw).2
/-- what the tables say of a method -/
def zMok (M : zM) : Prop := plainFor M.1 = true ∧ zcw M ∈ zW ∧ Cond.initialized M.1.cls ∈ zW ∧ M.2.2.1 + 19 ≤ 80 ∧ (M.1.cls ≠ "java/lang/invoke/MethodHandle" ∧ M.1.cls ≠ "java/lang/invoke/VarHandle")
theorem zx_ofW {l : Launch} {y : MethodName} {ws ws' : List Cond} {rm : Room} {Pc : Array Value → State → Prop} {Qc : Array Value → State → Outcome → State → Prop} {XC : String → State → State → Prop} {mc ms : Nat} {free : Addr → Prop} {cc : ByteArray} {maxL : Nat} {ret : Option FieldType}
    (hy : plainFor y = true) (hw : ws = Cond.code y cc maxL ret :: ws')
    (body : ∀ p e s m args below meth c s₁, BodyLoose p l y (headSpec ws rm) cc maxL ret e s m args below meth c s₁ → c.maxLocals = maxL → (∀ x ∈ c.exceptionTable.toList, False) → Pc args s →
      W p l e (headSpec ws rm).room s m args below meth c s.heap [] 0 0 (vx_MQ below Qc XC args s mc ms free) (entryFrame m args maxL)) : vx_Met l y ws rm Pc Qc XC mc ms free := by
  refine MetFree.of_bodySF (code := cc) (maxLocals := maxL) (ret := ret) hy ?_ ?_
  · intro args s m h hn
    obtain ⟨meth, c, h1, h2, h3, h4, h5, h6, -, -⟩ := Cond.code_spec hn (atoms_spec (ws := ws) h _ (by rw [hw]; exact List.mem_cons_self))
    exact ⟨meth, c, h1, h2, h3, h4, h5, h6⟩
  · intro p e s m args below meth c s₁ B hml hP _
    have hh0 : s₁.heap = s.heap := by rw [B.state]; rfl
    have ht : ∀ x ∈ c.exceptionTable.toList, False := by
      obtain ⟨meth9, c9, h1, h2, -, -, -, -, h7, -⟩ := Cond.code_spec B.named (atoms_spec (ws := ws) B.pre _ (by rw [hw]; exact List.mem_cons_self))
      cases Option.some.inj (h1.symm.trans B.method)
      cases Option.some.inj (h2.symm.trans (Stand.of_body B).code)
      intro x hx
      rw [Array.isEmpty_iff.mp h7] at hx
      cases hx
    obtain ⟨t, a1, o, b1, b2, b3⟩ := body p e s m args below meth c s₁ B hml ht hP s₁ hh0 (Stand.of_body B)
    exact ⟨t, o, a1, b1, b2, b3⟩
theorem zx_ofWH {l : Launch} {y : MethodName} {ws ws' : List Cond} {rm : Room} {Pc : Array Value → State → Prop} {Qc : Array Value → State → Outcome → State → Prop} {XC : String → State → State → Prop} {mc ms : Nat} {free : Addr → Prop} {cc : ByteArray} {maxL : Nat} {ret : Option FieldType} {hh : List (Nat × Nat × Nat × Nat)}
    (hy : plainFor y = true) (hw : ws = Cond.codeWith y cc maxL ret hh :: ws')
    (body : ∀ p e s m args below meth c s₁, BodyLoose p l y (headSpec ws rm) cc maxL ret e s m args below meth c s₁ → c.maxLocals = maxL → Pc args s →
      W p l e (headSpec ws rm).room s m args below meth c s.heap [] 0 0 (vx_MQ below Qc XC args s mc ms free) (entryFrame m args maxL)) : vx_Met l y ws rm Pc Qc XC mc ms free := by
  refine MetFree.of_bodySF (code := cc) (maxLocals := maxL) (ret := ret) hy ?_ ?_
  · intro args s m h hn
    obtain ⟨m9, meth, c, hn9, h1, h2, h3, h4, -, h5, h6, -⟩ := Cond.codeWith_spec (atoms_spec (ws := ws) h _ (by rw [hw]; exact List.mem_cons_self))
    cases hn.symm.trans hn9
    exact ⟨meth, c, h1, h2, h3, h4, h5, h6⟩
  · intro p e s m args below meth c s₁ B hml hP _
    have hh0 : s₁.heap = s.heap := by rw [B.state]; rfl
    obtain ⟨t, a1, o, b1, b2, b3⟩ := body p e s m args below meth c s₁ B hml hP s₁ hh0 (Stand.of_body B)
    exact ⟨t, o, a1, b1, b2, b3⟩
theorem zCt_of {l : Launch} {g : Bool × Nat} {md : Nat} {M : zM} {X : zX} {bc bs : Nat} {args : List zV} {h : zH} {f : zF} (hM : zMok M) (hl : l.stackTraces = false) (hn : (zeL args).length ≤ M.2.2.1)
    (k : zVV l g md M X bc bs (0, zeL args ++ List.replicate (M.2.2.1 - (zeL args).length) none, [], h) (fun f' => f' = f)) : zCt l g md M X bc bs args h f := by
  intro D cA ad A
  have hlen : (lg_sl (args.map (zcv ad))).length = (zeL args).length := by
    clear k hn
    induction args with
    | nil => rfl
    | cons v r ih =>
      have hc := zcat_cv ad v
      have ih' : (List.flatMap (fun v : Value => if v.category = 2 then [Slot.val v, Slot.second] else [Slot.val v]) (r.map (zcv ad))).length = (zeL r).length := ih
      rcases v with x | x | x
      · simp only [lg_sl, List.map_cons, List.flatMap_cons, List.length_append]
        rw [if_neg (by rw [hc]; show ¬ (1 : Nat) = 2; decide), ih']
        show 1 + _ = (zeL r).length + 1
        omega
      · simp only [lg_sl, List.map_cons, List.flatMap_cons, List.length_append]
        rw [if_pos (by rw [hc]; rfl), ih']
        show 2 + _ = (zeL r).length + 1 + 1
        omega
      · simp only [lg_sl, List.map_cons, List.flatMap_cons, List.length_append]
        rw [if_neg (by rw [hc]; show ¬ (1 : Nat) = 2; decide), ih']
        show 1 + _ = (zeL r).length + 1
        omega
  have body : ∀ p e s m a below meth c s₁, BodyLoose p l M.1 (headSpec (zmw M) (zrm M.2.2.2.2.2 bc bs)) M.2.1 M.2.2.1 M.2.2.2.1 e s m a below meth c s₁ → c.maxLocals = M.2.2.1 → c.exceptionTable.toList = tableOf M.2.2.2.2.1 → zPc md D cA ad A X args h a s →
      W p l e (headSpec (zmw M) (zrm M.2.2.2.2.2 bc bs)).room s m a below meth c s.heap [] 0 0 (vx_MQ below (zQc g D cA ad A h f) (zXC g D cA ad A h f) a s bc bs A) (entryFrame m a M.2.2.1) := by
    intro p e s m a below meth c s₁ B hml htb hPc
    obtain ⟨rfl, hw, hE, hK, hso, hA⟩ := hPc
    have hts := atoms_spec (ws := zmw M) B.pre
    have hown : s.vm.findClass M.1.cls = some m.cls := findClass_of_methodNamed B.named
    have hnm : meth.name = M.1.name := (name_of_methodNamed B.named B.method).1
    have hent := lv_entry (args.map (zcv ad)) (n := M.2.2.1) (by rw [hlen]; exact hn)
    rw [lg_entry_eq]
    generalize (lg_sl (args.map (zcv ad)) ++ List.replicate (M.2.2.1 - (lg_sl (args.map (zcv ad))).length) Slot.unset).toArray = ls at hent ⊢
    refine k p e _ s m _ below meth c D cA ad A _ ⟨B.exec, B.bytes, B.returns, hml, hown, fun w hw => hts w (List.mem_cons_of_mem _ hw), B.notSynchronized, htb, hnm, hK, hE, hA, hl⟩ (Nat.le_refl _) (Nat.le_refl _) ad s.heap [] ls 0 0 zag.rfl'
      ⟨hw, va_S.rf, by rw [zeL_E]; exact hent, by simp; omega, zeL_ok args hso, fun v hv => by cases hv⟩ (by show 0 + bc ≤ bc; omega) (by show 0 + bs ≤ bs; omega) ?_
    intro f' hf'
    subst hf'
    intro ad' H locs cells slots pc ls h1 h2 h3 h4 h5 h6
    refine ⟨?_, ?_⟩
    · intro r hr hv hrd
      refine W.widen (k := bc) (n := bs) h5 h6 (vx_ret ?_)
      have fin : ∀ t : State, t.heap = H → s.WarmedH t.vm → zQc g D cA ad A h f' (args.map (zcv ad)).toArray s (.returned (r.map (zcv ad'))) t := fun t ht hW => ⟨r, ad', hr, rfl, h1, h4, by rw [ht]; exact h2, hv, h3.F ht⟩
      cases r with
      | none => exact W.vret B.exec B.bytes (B.returns.trans hrd.1) (fun t ht hW => fin t ht hW) h3.2.2 hrd.2 B.notSynchronized
      | some v =>
        rcases v with x | x | x
        · obtain ⟨⟨ty, q1, q2⟩, q3⟩ := hrd
          exact W.zret B.exec B.bytes (B.returns.trans q1) q2 (fun t ht hW => fin t ht hW) h3.2.2 q3 B.notSynchronized
        · exact W.lret B.exec B.bytes (B.returns.trans hrd.1) (fun t ht hW => fin t ht hW) h3.2.2 hrd.2 B.notSynchronized
        · obtain ⟨⟨ty, q1, q2⟩, q3⟩ := hrd
          exact W.aret B.exec B.bytes (B.returns.trans q1) q2 (by cases x with
            | none => exact Or.inl rfl
            | some y => exact Or.inr ⟨_, rfl⟩) (fun t ht hW => fin t ht hW) h3.2.2 q3 B.notSynchronized
    · intro kx hk hhh q ce rest hq hcv hcl
      refine vx_out (E := zexn kx) (fun x hx => ?_) B.notSynchronized hq hcv hcl (fun t ht hW => ⟨kx, ad', hk, rfl, h1, h4, by rw [ht]; exact h2, h3.F ht⟩) h3.2.2 h5 h6
      rw [htb, hhh] at hx
      cases hx
  obtain ⟨m1, m2, m3, m4, m5⟩ := hM
  cases hq : M.2.2.2.2.1 with
  | nil =>
    refine zx_ofW (cc := M.2.1) (maxL := M.2.2.1) (ret := M.2.2.2.1) (ws' := zW) m1 (by unfold zmw zcw; rw [hq]) ?_
    intro p e s m a below meth c s₁ B hml ht hPc
    refine body p e s m a below meth c s₁ B hml ?_ hPc
    rw [hq]
    cases hc : c.exceptionTable.toList with
    | nil => rfl
    | cons x r => exact (ht x (by rw [hc]; exact List.mem_cons_self)).elim
  | cons q r =>
    have e1 : zmw M = Cond.codeWith M.1 M.2.1 M.2.2.1 M.2.2.2.1 (q :: r) :: zW := by unfold zmw zcw; rw [hq]
    refine zx_ofWH (cc := M.2.1) (maxL := M.2.2.1) (ret := M.2.2.2.1) (ws' := zW) (hh := q :: r) m1 e1 ?_
    intro p e s m a below meth c s₁ B hml hPc
    refine body p e s m a below meth c s₁ B hml ?_ hPc
    rw [hq]
    exact vx_table (x := M.1) B (atoms_spec (ws := zmw M) B.pre _ (by rw [e1]; exact List.mem_cons_self))
/-- behind a call: the world as the callee left it -/
theorem zW_run {l : Launch} {g : Bool × Nat} {h : zH} {M : zM} {X : zX} {p : Program} {e : Env} {R : Room} {s : State} {m : MethodId} {args : Array Value} {below : List Frame} {meth : Method} {cd : Code} {H : Heap} {locs : List Loc} {cells slots mc ms : Nat} {Q : State → Prop} {D : va_G} {cA : Nat → ClassId} {ad : Nat → Nat} {A : Nat → Prop} {f : zF} {pc : Nat} {ls : Array Slot} {st0 rest : List Value} {a : Array Value}
    (hr : vx_Run p l e R s m args below meth cd H locs cells slots mc ms (F0 m pc ls st0) rest (zQc g D cA ad A h f a) (zXC g D cA ad A h f) A) (hS : va_S A s.heap H locs)
    (kk : ∀ (r : Option zV) (ad' : Nat → Nat) (H1 : Heap) (locs1 : List Loc), f.1 = .inl r → zag (ztop h) ad ad' → zle g.1 h f.2 → zWd g.2 D cA ad' A f.2 H1 → (∀ v, r = some v → zvok f.2 v) → va_S A s.heap H1 locs1 → W p l e R s m args below meth cd H1 locs1 (cells + mc) (slots + ms) Q (F0 m (pc + 3) ls (r.toList.map (zcv ad') ++ rest)))
    (kx : ∀ (k : Nat) (ad' : Nat → Nat) (H1 : Heap) (locs1 : List Loc) (q : Nat) (ce : Cell), f.1 = .inr k → zag (ztop h) ad ad' → zle g.1 h f.2 → zWd g.2 D cA ad' A f.2 H1 → va_S A s.heap H1 locs1 → H1[q]? = some ce → ce.vm = .none → s.vm.findClass (zexn k) = some ce.cls → vx_W p l e R s m args below meth cd H1 locs1 (cells + mc) (slots + ms) Q (F0 m pc ls rest) q) :
    W p l e R s m args below meth cd H locs cells slots Q (F0 m pc ls st0) := by
  intro T hT X0
  have keep : ∀ {st₀ t T' : State} {L : List Loc}, st₀.heap = H → T'.heap = t.heap → (∀ q ∈ L, A q.base) → va_F A st₀ t → va_S A s.heap T'.heap (locs ++ L) := by
    intro st₀ t T' L h0 e1 hL hF
    exact (vx_keep h0 e1 hS (fun q _ h => h) (fun q h => h) hL hF).2.2
  rcases hr T hT X0 with ⟨v, st₀, t, T', L, h0, X', hL, e1, e2, ⟨r, ad', q1, q2, q3, q4, q5, q6, q7⟩, st⟩ | ⟨q, st₀, t, T', L, E, ce, h0, X', hL, e1, e2, ⟨k, ad', q1, q2, q3, q4, q5, q7⟩, hce, hcv, hcl, st⟩
  · cases q2
    obtain ⟨t2, a1, b1⟩ := kk r ad' T'.heap (locs ++ L) q1 q3 q4 (by rw [e1]; exact q5) q6 (keep h0 e1 hL q7) T' rfl X'
    refine ⟨t2, st t2 ?_, b1⟩
    cases r <;> exact a1
  · subst q2
    obtain ⟨t2, a1, b1⟩ := kx k ad' T'.heap (locs ++ L) q ce q1 q3 q4 (by rw [e1]; exact q5) (keep h0 e1 hL q7) (by rw [e1]; exact hce) hcv hcl T' rfl X'
    exact ⟨t2, st.trans a1, b1⟩
theorem zPc_blind {md : Nat} {D : va_G} {cA : Nat → ClassId} {ad : Nat → Nat} {A : Nat → Prop} {X : zX} {args : List zV} {h : zH} : FrameBlind (zPc md D cA ad A X args h) := by
  intro a U g mk q
  obtain ⟨q1, q2, q3, q4, q5, q6⟩ := q
  exact ⟨q1, q2, q3.same rfl, va_K.moved (u := U) (U := U.calling g mk a) (Vm.Alike.refl U.vm) q4, q5, q6⟩
theorem zPc_at {l : Launch} {M : zM} {md : Nat} {D : va_G} {cA : Nat → ClassId} {ad0 ad : Nat → Nat} {A : Nat → Prop} {X : zX} {as : List zV} {h : zH} {p : Program} {s : State} {m : MethodId} {args : Array Value} {meth : Method} {cd : Code} {H : Heap} {locs : List Loc}
    (hC : zCx l M X D cA ad0 A p s m args meth cd) (ha : zag 0 ad0 ad) (hw : zWd md D cA ad A h H) (hS : va_S A s.heap H locs) (hso : zSok h as) (U : State) (hU : U.heap = H) (hW : s.WarmedH U.vm) : zPc md D cA ad A X as h (as.map (zcv ad)).toArray U := by
  obtain ⟨hx, hb, hr, hml, hown, hts, hlk, htb, hnm, hK, hE, hA, -⟩ := hC
  refine ⟨rfl, by rw [hU]; exact hw, ?_, va_K.moved hW.alike hK, hso, fun q hq => hA q ?_⟩
  · rw [hU]
    exact (hE.ag ha).warm hW hS.2.1
  · rw [hU] at hq
    exact Nat.le_trans hS.1 hq
theorem zGoodW {M : zM} (h : zcw M ∈ zW) (Ts : List Cond) (hT : ∀ w ∈ zW, w ∈ Ts) : GoodIn Ts (zmw M) := by
  intro w hw
  rcases List.mem_cons.mp hw with e | e
  · subst e
    exact ⟨hT _ h, zgood _ h⟩
  · exact ⟨hT _ e, zgood _ e⟩
/-- what is wanted of a call: links, depth -/
def zcd (M M' : zM) (n : Nat) : Prop := zMok M' ∧ M'.2.2.2.2.2 + 1 ≤ M.2.2.2.2.2 ∧ (parseMethodDescriptor M'.1.desc).map (fun d => d.parameters.length) = some n
theorem zcd_room {M M' : zM} {n : Nat} (h : zcd M M' n) {R : Room} (hf : M.2.2.2.2.2 ≤ R.frames) (hl : 80 * M.2.2.2.2.2 ≤ R.locals) (bc bs : Nat) : (zrm M'.2.2.2.2.2 bc bs).frames + 1 ≤ R.frames ∧ 8 + (M'.2.2.1 + 11) + (zrm M'.2.2.2.2.2 bc bs).locals ≤ R.locals := by
  obtain ⟨⟨-, -, -, h4, -⟩, h5, -⟩ := h
  constructor
  · show M'.2.2.2.2.2 + 1 ≤ _
    omega
  · show 8 + (M'.2.2.1 + 11) + 80 * M'.2.2.2.2.2 ≤ _
    omega
theorem zcd_n {M M' : zM} {n : Nat} (h : zcd M M' n) : ∀ sig, parseMethodDescriptor M'.1.desc = some sig → n = sig.parameters.length := by
  intro sig hs
  have := h.2.2
  rw [hs] at this
  exact (Option.some.inj this).symm
/-- goes on behind a call that hands back -/
def zgo (l : Launch) (g g' : Bool × Nat) (M : zM) (X : zX) (bc bs pc : Nat) (L : List (Option zV)) (rest : List zV) (h : zH) (f : zF) (P : zF → Prop) : Prop :=
  (∀ r, f.1 = .inl r → zle g'.1 h f.2 → zVV l g g'.2 M X bc bs (pc + 3, L, r.toList ++ rest, f.2) P) ∧ (∀ k, f.1 = .inr k → M.2.2.2.2.1 = [] ∧ g'.2 = g.2 ∧ P (.inr k, f.2))
theorem zW_go {l : Launch} {g g' : Bool × Nat} {M : zM} {X : zX} {p : Program} {e : Env} {R : Room} {s : State} {m : MethodId} {args : Array Value} {below : List Frame} {meth : Method} {cd : Code} {H : Heap} {locs : List Loc} {cells slots mc ms bc bs : Nat} {Q : State → Prop} {D : va_G} {cA : Nat → ClassId} {ad0 ad : Nat → Nat} {A : Nat → Prop} {f : zF} {pc : Nat} {ls : Array Slot} {L : List (Option zV)} {st rest : List zV} {h : zH} {a : Array Value} {P : zF → Prop}
    (hC : zCx l M X D cA ad0 A p s m args meth cd) (hf : M.2.2.2.2.2 ≤ R.frames) (hlo : 80 * M.2.2.2.2.2 ≤ R.locals) (ha : zag 0 ad0 ad) (hS : va_S A s.heap H locs) (hL : lv_has ls M.2.2.1 (zE ad 0 L)) (hLn : L.length = M.2.2.1) (hLo : zLok h L) (hso : zSok h rest)
    (hc : cells + (bc + mc) ≤ R.cells) (hs : slots + (bs + ms) ≤ R.slots) (hF : ∀ f, P f → zFin g M p l e R s m args below meth cd D cA A Q h ad f)
    (hr : vx_Run p l e R s m args below meth cd H locs cells slots mc ms (F0 m pc ls (st.map (zcv ad))) (rest.map (zcv ad)) (zQc g' D cA ad A h f a) (zXC g' D cA ad A h f) A)
    (hst9 : g'.1 = true ∨ g.1 = false) (go : zgo l g g' M X bc bs pc L rest h f P) : W p l e R s m args below meth cd H locs cells slots Q (F0 m pc ls (st.map (zcv ad))) := by
  have upv : ∀ {v : zV}, zle g'.1 h f.2 → zvok h v → zvok f.2 v := by
    intro v hn hv
    obtain ⟨n1, n2⟩ := hn.weak
    rcases v with x | x | x
    · trivial
    · trivial
    · intro q hq
      rcases hv q hq with h1 | h1
      · exact Or.inl ⟨Nat.lt_of_lt_of_le h1.1 n1, by rw [n2 _ h1.1]; exact h1.2⟩
      · exact Or.inr h1
  have upl : zle g'.1 h f.2 → zle g.1 h f.2 := by
    intro hn
    rcases hst9 with e | e
    · rw [e] at hn
      exact zle.same hn
    · rw [e]
      exact hn.weak
  refine zW_run (X := X) (M := M) hr hS ?_ ?_
  · intro r ad' H1 locs1 e1 q1 q2 q3 q4 q5
    have e2 : r.toList.map (zcv ad') ++ rest.map (zcv ad) = (r.toList ++ rest).map (zcv ad') := by rw [List.map_append, zmap_ag q1 hso]
    rw [e2]
    refine go.1 r e1 q2 p e R s m args below meth cd D cA ad0 A Q hC hf hlo ad' H1 locs1 ls _ _ (ha.trans q1 (Nat.zero_le _)) ⟨q3, q5, ?_, hLn, fun v hv => upv q2 (hLo v hv), fun v hv => ?_⟩ (by omega) (by omega) (fun f' hf' => (hF f' hf').mono q1 (upl q2))
    · have e3 : zE ad' 0 L = zE ad 0 L := by
        have key : ∀ (L : List (Option zV)) (b : Nat), zLok h L → zE ad' b L = zE ad b L := by
          intro L
          induction L with
          | nil => intro b _; rfl
          | cons x r ih =>
            intro b hb
            have h9 := ih (b + 1) (fun v hv => hb v (List.mem_cons_of_mem _ hv))
            cases x with
            | none => exact h9
            | some v =>
              show (b, _) :: _ = (b, _) :: _
              rw [h9, zcv_ag q1 (hb v List.mem_cons_self)]
        exact key L 0 hLo
      rw [e3]
      exact hL
    · rcases List.mem_append.mp hv with h1 | h1
      · cases r with
        | none => cases h1
        | some w =>
          rw [List.mem_singleton.mp h1]
          exact q4 w rfl
      · exact upv q2 (hso v h1)
  · intro k ad' H1 locs1 q ce e1 q1 q2 q3 q5 hq hcv hcl
    obtain ⟨g1, g9, g2⟩ := go.2 k e1
    rw [g9] at q3
    exact (hF _ g2 ad' H1 locs1 _ _ pc ls q1 q3 q5 (upl q2) (by omega) (by omega)).2 k rfl g1 q ce _ hq hcv hcl
theorem zcats {ad : Nat → Nat} (vs : List zV) : ((vs.map (zcv ad)).map fun v => v.category).sum = (vs.map zcat).sum := by
  rw [List.map_map]
  congr 1
  exact List.map_congr_left fun v _ => zcat_cv ad v
section Calls
variable {l : Launch} {g g' : Bool × Nat} {md : Nat} {M M' : zM} {X : zX} {bc bs mc ms pc idx n : Nat} {L : List (Option zV)} {st as rest : List zV} {h : zH} {f : zF} {P : zF → Prop}
theorem zV_callV {c o : Nat} (hd : decode M.2.1 pc = .ok (.invokevirtual idx, 3)) (hct : zCt l g' md M' X mc ms (zr (some (c, o)) :: as) h f) (hcd : zcd M M' n) (hhh : M'.2.2.2.2.1 = []) (hlk : Cond.methodLink M.1.cls idx M'.1 ∈ zW) (hin : Cond.instanceMethod M'.1 ∈ zW) (hse : Cond.selects M'.1.cls M'.1 M'.1 ∈ zW)
    (hc : c < 12) (hcn : zcn c = M'.1.cls) (hst : st = as.reverse ++ zr (some (c, o)) :: rest) (hn : as.length = n) (hrs : (rest.map zcat).sum ≤ 8) (hst9 : g'.1 = true ∨ g.1 = false) (go : zgo l g g' M X bc bs pc L rest h f P) : zVV l g md M X (bc + mc) (bs + ms) (pc, L, st, h) P := by
  intro p e R s m args below meth cd D cA ad0 A Q hC hf hl ad H locs ls cells slots ha hG hc1 hs1 hF
  obtain ⟨g1, g2, g3, g4, g5, g6⟩ := hG
  have hC' := hC
  obtain ⟨hx, hb, hr, hml, hown, hts, hlk2, htb, hnm, hKK, hE, hA, -⟩ := hC'
  have g6 : zSok h st := g6
  rw [hst] at g6
  have hso : zSok h (zr (some (c, o)) :: as) := fun v hv => g6 v (by
    rcases List.mem_cons.mp hv with e | e
    · exact List.mem_append_right _ (e ▸ List.mem_cons_self)
    · exact List.mem_append_left _ (List.mem_reverse.mpr e))
  have hro : zSok h rest := fun v hv => g6 v (List.mem_append_right _ (List.mem_cons_of_mem _ hv))
  obtain ⟨ho, hKo⟩ := zdyn (h := h) (q := (c, o)) (hso _ List.mem_cons_self) (by show c < 200; omega)
  have he := zws_get (md := md) (cA := cA) (ad := ad) ho
  rw [hKo, show zent md cA ad h c o = .inr (c, (List.range (zN c)).map (fun k => zfv md ad h c o k)) by unfold zent; rw [(zcl_ok c hc).2]] at he
  have hmm : zmw M' = Cond.code M'.1 M'.2.1 M'.2.2.1 M'.2.2.2.1 :: zW := by unfold zmw zcw; rw [hhh]
  obtain ⟨hMo, hdp, hpn⟩ := id hcd
  obtain ⟨m1, m2, m3, m4, m5⟩ := hMo
  have cw : CallW R s args M.1.cls M'.1.cls idx M'.1 M'.2.1 M'.2.2.1 M'.2.2.2.1 (zmw M') (zrm M'.2.2.2.2.2 mc ms) mc ms n :=
    ⟨callB_of n hts (zGoodW m2 zW (fun _ h => h)) hmm rfl rfl (hts _ m3) (hts _ hlk) ⟨m5.1, m5.2, hpn⟩ (zcd_room hcd hf hl mc ms), hts _ hin, hts _ hse⟩
  have hcall : vx_Run p l e R s m args below meth cd H locs cells slots mc ms (F0 m pc ls (st.map (zcv ad))) (rest.map (zcv ad)) (zQc g' D cA ad A h f (Value.ref (ad o) :: as.map (zcv ad)).toArray) (zXC g' D cA ad A h f) A := by
    refine vx_runV (As := as.map (zcv ad)) (b := ad o) (Ts := zW) (own := M.1.cls) (cc := M.2.1) (nL := M.2.2.1) ⟨hx, hb, hml, hown, hts⟩ (hct D cA ad A) cw ⟨zPc_blind, ?_, fun U hU hW => ?_⟩ rfl (by simpa using hn) g3.1 ?_ ?_ hd ⟨by omega, by omega⟩
    · rw [← hcn]
      exact va_recv (q := (zcn c, zcF c, zN c)) hKK g1.1 (zcl_ok c hc).1 he
    · exact zPc_at hC ha g1 g2 hso U hU hW
    · show st.map (zcv ad) = _
      rw [hst]
      simp [List.map_reverse, zcv, va_rf, zadr]
    · exact lv_room (by rw [zcats]; exact hrs)
  exact zW_go (st := st) hC hf hl ha g2 g3 g4 g5 hro hc1 hs1 hF hcall hst9 go
theorem zV_callS (hd : decode M.2.1 pc = .ok (.invokestatic idx, 3)) (hct : zCt l g' md M' X mc ms as h f) (hcd : zcd M M' n) (hhh : M'.2.2.2.2.1 = []) (hlk : Cond.methodLink M.1.cls idx M'.1 ∈ zW) (hsm : Cond.static M'.1 ∈ zW)
    (hst : st = as.reverse ++ rest) (hn : as.length = n) (hrs : (rest.map zcat).sum ≤ 8) (hst9 : g'.1 = true ∨ g.1 = false) (go : zgo l g g' M X bc bs pc L rest h f P) : zVV l g md M X (bc + mc) (bs + ms) (pc, L, st, h) P := by
  intro p e R s m args below meth cd D cA ad0 A Q hC hf hl ad H locs ls cells slots ha hG hc1 hs1 hF
  obtain ⟨g1, g2, g3, g4, g5, g6⟩ := hG
  have hC' := hC
  obtain ⟨hx, hb, hr, hml, hown, hts, hlk2, htb, hnm, hKK, hE, hA, -⟩ := hC'
  have g6 : zSok h st := g6
  rw [hst] at g6
  have hso : zSok h as := fun v hv => g6 v (List.mem_append_left _ (List.mem_reverse.mpr hv))
  have hro : zSok h rest := fun v hv => g6 v (List.mem_append_right _ hv)
  have hmm : zmw M' = Cond.code M'.1 M'.2.1 M'.2.2.1 M'.2.2.2.1 :: zW := by unfold zmw zcw; rw [hhh]
  obtain ⟨hMo, hdp, hpn⟩ := id hcd
  obtain ⟨m1, m2, m3, m4, m5⟩ := hMo
  have hcall : vx_Run p l e R s m args below meth cd H locs cells slots mc ms (F0 m pc ls (st.map (zcv ad))) (rest.map (zcv ad)) (zQc g' D cA ad A h f (as.map (zcv ad)).toArray) (zXC g' D cA ad A h f) A := by
    refine vx_runS (As := as.map (zcv ad)) (Ts := zW) (own := M.1.cls) (cc := M.2.1) (nL := M.2.2.1) (n := n) (bytes := M'.2.1) (maxL := M'.2.2.1) (ret := M'.2.2.2.1) ⟨hx, hb, hml, hown, hts⟩ (hct D cA ad A) ⟨callB_of n hts (zGoodW m2 zW (fun _ h => h)) hmm rfl rfl (hts _ m3) (hts _ hlk) ⟨m5.1, m5.2, hpn⟩ (zcd_room hcd hf hl mc ms), hts _ hsm⟩ ⟨zPc_blind, fun U hU hW => ?_⟩ rfl (by simpa using hn) g3.1 ?_ ?_ hd ⟨by omega, by omega⟩
    · exact zPc_at hC ha g1 g2 hso U hU hW
    · show st.map (zcv ad) = _
      rw [hst]
      simp [List.map_reverse]
    · exact lv_room (by rw [zcats]; exact hrs)
  exact zW_go (st := st) hC hf hl ha g2 g3 g4 g5 hro hc1 hs1 hF hcall hst9 go
/-- a method with a table of its own (the law's helpers) -/
theorem zV_callSX {q0 : Nat × Nat × Nat × Nat} {r0 : List (Nat × Nat × Nat × Nat)} (hd : decode M.2.1 pc = .ok (.invokestatic idx, 3)) (hct : zCt l g' md M' X mc ms as h f) (hcd : zcd M M' n) (hhh : M'.2.2.2.2.1 = q0 :: r0) (hlk : Cond.methodLink M.1.cls idx M'.1 ∈ zW) (hsm : Cond.static M'.1 ∈ zW)
    (hst : st = as.reverse ++ rest) (hn : as.length = n) (hrs : (rest.map zcat).sum ≤ 8) (hst9 : g'.1 = true ∨ g.1 = false) (go : zgo l g g' M X bc bs pc L rest h f P) : zVV l g md M X (bc + mc) (bs + ms) (pc, L, st, h) P := by
  intro p e R s m args below meth cd D cA ad0 A Q hC hf hl ad H locs ls cells slots ha hG hc1 hs1 hF
  obtain ⟨g1, g2, g3, g4, g5, g6⟩ := hG
  have hC' := hC
  obtain ⟨hx, hb, hr, hml, hown, hts, hlk2, htb, hnm, hKK, hE, hA, -⟩ := hC'
  have g6 : zSok h st := g6
  rw [hst] at g6
  have hso : zSok h as := fun v hv => g6 v (List.mem_append_left _ (List.mem_reverse.mpr hv))
  have hro : zSok h rest := fun v hv => g6 v (List.mem_append_right _ hv)
  have hcw : zcw M' = Cond.codeWith M'.1 M'.2.1 M'.2.2.1 M'.2.2.2.1 (q0 :: r0) := by unfold zcw; rw [hhh]
  obtain ⟨hMo, hdp, hpn⟩ := id hcd
  obtain ⟨m1, m2, m3, m4, m5⟩ := hMo
  have hroom := zcd_room hcd hf hl mc ms
  have hcall : vx_Run p l e R s m args below meth cd H locs cells slots mc ms (F0 m pc ls (st.map (zcv ad))) (rest.map (zcv ad)) (zQc g' D cA ad A h f (as.map (zcv ad)).toArray) (zXC g' D cA ad A h f) A := by
    refine vx_runSX (As := as.map (zcv ad)) (Ts := zW) (own := M.1.cls) (cc := M.2.1) (nL := M.2.2.1) (n := n) (bytes := M'.2.1) (maxL := M'.2.2.1) (ret := M'.2.2.2.1) (hh := q0 :: r0) ⟨hx, hb, hml, hown, hts⟩ (hct D cA ad A)
      ⟨⟨rfl, rfl, hroom.1, hroom.2, pay_in hts (zGoodW m2 zW (fun _ h => h)), by unfold zmw; rw [hcw]; exact List.mem_cons_self⟩, hts _ (hcw ▸ m2), hts _ m3, m5, zcd_n hcd, hts _ hlk, hts _ hsm⟩ ⟨zPc_blind, fun U hU hW => ?_⟩ rfl (by simpa using hn) g3.1 ?_ ?_ hd ⟨by omega, by omega⟩
    · exact zPc_at hC ha g1 g2 hso U hU hW
    · show st.map (zcv ad) = _
      rw [hst]
      simp [List.map_reverse]
    · exact lv_room (by rw [zcats]; exact hrs)
  exact zW_go (st := st) hC hf hl ha g2 g3 g4 g5 hro hc1 hs1 hF hcall hst9 go
/-- one that hands back, as the kit's rows for nest mates and constructors want it -/
theorem zCt_met {args : List zV} {r : Option zV} {h' : zH} (hct : zCt l g' md M' X mc ms args h (.inl r, h')) (D : va_G) (cA : Nat → ClassId) (ad : Nat → Nat) (A : Nat → Prop) : Met l M'.1 (zmw M') (zrm M'.2.2.2.2.2 mc ms) (zPc md D cA ad A X args h) (zQc g' D cA ad A h (.inl r, h')) mc ms A := by
  intro p e b1 b2 b3 b4 b5 b6 b7 b8 b9 b10 b11
  obtain ⟨k, o, h1, h2, h3, h4⟩ := hct D cA ad A p e b1 b2 b3 b4 b5 b6 b7 b8 b9 b10 b11
  refine ⟨k, o, h1, h2, h3, ?_⟩
  rcases h4 with h4 | ⟨q, hq, E, ce, L, ⟨kx, ad', q1, -⟩, -⟩
  · exact h4
  · cases q1
theorem zrun_x {p : Program} {e : Env} {R : Room} {s : State} {m : MethodId} {args : Array Value} {below : List Frame} {meth : Method} {c : Code} {H : Heap} {locs : List Loc} {cells slots : Nat} {g : JFrame} {rst : List Value} {Qa : State → Outcome → State → Prop} {XC : String → State → State → Prop} {A : Nat → Prop}
    (hr : va_Run p l e R s m args below meth c H locs cells slots mc ms g rst Qa A) : vx_Run p l e R s m args below meth c H locs cells slots mc ms g rst Qa XC A := by
  intro T hT X
  obtain ⟨v, st₀, t, T', L, q⟩ := hr T hT X
  exact Or.inl ⟨v, st₀, t, T', L, q⟩
theorem zV_callSN {r : Option zV} {h' : zH} {host : String} (hd : decode M.2.1 pc = .ok (.invokestatic idx, 3)) (hct : zCt l g' md M' X mc ms as h (.inl r, h')) (hcd : zcd M M' n) (hhh : M'.2.2.2.2.1 = []) (hlk : Cond.methodLinkNest M.1.cls idx M'.1 host ∈ zNest) (hsm : Cond.static M'.1 ∈ zW)
    (hst : st = as.reverse ++ rest) (hn : as.length = n) (hrs : (rest.map zcat).sum ≤ 8) (hst9 : g'.1 = true ∨ g.1 = false) (go : zle g'.1 h h' → zVV l g g'.2 M X bc bs (pc + 3, L, r.toList ++ rest, h') P) : zVV l g md M X (bc + mc) (bs + ms) (pc, L, st, h) P := by
  intro p e R s m args below meth cd D cA ad0 A Q hC hf hl ad H locs ls cells slots ha hG hc1 hs1 hF
  obtain ⟨g1, g2, g3, g4, g5, g6⟩ := hG
  have hC' := hC
  obtain ⟨hx, hb, hr, hml, hown, hts, hlk2, htb, hnm, hKK, hE, hA, -⟩ := hC'
  have g6 : zSok h st := g6
  rw [hst] at g6
  have hso : zSok h as := fun v hv => g6 v (List.mem_append_left _ (List.mem_reverse.mpr hv))
  have hro : zSok h rest := fun v hv => g6 v (List.mem_append_right _ hv)
  have hmm : zmw M' = Cond.code M'.1 M'.2.1 M'.2.2.1 M'.2.2.2.1 :: zW := by unfold zmw zcw; rw [hhh]
  obtain ⟨hMo, hdp, hpn⟩ := id hcd
  obtain ⟨m1, m2, m3, m4, m5⟩ := hMo
  obtain ⟨-, -, -, -, -, -, -, -, hNw, -⟩ := id hE
  have hcall : vx_Run p l e R s m args below meth cd H locs cells slots mc ms (F0 m pc ls (st.map (zcv ad))) (rest.map (zcv ad)) (zQc g' D cA ad A h (.inl r, h') (as.map (zcv ad)).toArray) (zXC g' D cA ad A h (.inl r, h')) A := by
    refine zrun_x (va_runSN (As := as.map (zcv ad)) (Ts := zW) (own := M.1.cls) (cc := M.2.1) (nL := M.2.2.1) (n := n) (bytes := M'.2.1) (maxL := M'.2.2.1) (ret := M'.2.2.2.1) (host := host) ⟨hx, hb, hml, hown, hts⟩ (zCt_met hct D cA ad A) ⟨va_cnB n hts (zGoodW m2 zW (fun _ h => h)) hmm rfl rfl (hNw _ hlk) (hts _ m3) ⟨m5.1, m5.2, hpn⟩ (zcd_room hcd hf hl mc ms), hts _ hsm, trivial⟩ ⟨zPc_blind, fun U hU hW => ?_⟩ rfl (by simpa using hn) g3.1 ?_ ?_ hd ⟨by omega, by omega⟩)
    · exact zPc_at hC ha g1 g2 hso U hU hW
    · show st.map (zcv ad) = _
      rw [hst]
      simp [List.map_reverse]
    · exact lv_room (by rw [zcats]; exact hrs)
  exact zW_go (st := st) hC hf hl ha g2 g3 g4 g5 hro hc1 hs1 hF hcall hst9 ⟨fun r' e q => by cases e; exact go q, fun k e => by cases e⟩
theorem zV_callI {c o : Nat} {r : Option zV} {h' : zH} (hd : decode M.2.1 pc = .ok (.invokespecial idx, 3)) (hct : zCt l g' md M' X mc ms (zr (some (c, o)) :: as) h (.inl r, h')) (hcd : zcd M M' n) (hhh : M'.2.2.2.2.1 = []) (hret : M'.2.2.2.1 = none) (hlk : Cond.methodLink M.1.cls idx M'.1 ∈ zW) (hin : Cond.instanceMethod M'.1 ∈ zW) (hy1 : M'.1.name = "<init>")
    (hst : st = as.reverse ++ zr (some (c, o)) :: rest) (hn : as.length = n) (hrs : (rest.map zcat).sum ≤ 8) (hst9 : g'.1 = true ∨ g.1 = false) (go : zle g'.1 h h' → zVV l g g'.2 M X bc bs (pc + 3, L, r.toList ++ rest, h') P) : zVV l g md M X (bc + mc) (bs + ms) (pc, L, st, h) P := by
  intro p e R s m args below meth cd D cA ad0 A Q hC hf hl ad H locs ls cells slots ha hG hc1 hs1 hF
  obtain ⟨g1, g2, g3, g4, g5, g6⟩ := hG
  have hC' := hC
  obtain ⟨hx, hb, hr, hml, hown, hts, hlk2, htb, hnm, hKK, hE, hA, -⟩ := hC'
  have g6 : zSok h st := g6
  rw [hst] at g6
  have hso : zSok h (zr (some (c, o)) :: as) := fun v hv => g6 v (by
    rcases List.mem_cons.mp hv with e | e
    · exact List.mem_append_right _ (e ▸ List.mem_cons_self)
    · exact List.mem_append_left _ (List.mem_reverse.mpr e))
  have hro : zSok h rest := fun v hv => g6 v (List.mem_append_right _ (List.mem_cons_of_mem _ hv))
  have hmm : zmw M' = Cond.code M'.1 M'.2.1 M'.2.2.1 none :: zW := by unfold zmw zcw; rw [hhh, hret]
  obtain ⟨hMo, hdp, hpn⟩ := id hcd
  obtain ⟨m1, m2, m3, m4, m5⟩ := hMo
  have hcall : vx_Run p l e R s m args below meth cd H locs cells slots mc ms (F0 m pc ls (st.map (zcv ad))) (rest.map (zcv ad)) (zQc g' D cA ad A h (.inl r, h') (Value.ref (ad o) :: as.map (zcv ad)).toArray) (zXC g' D cA ad A h (.inl r, h')) A := by
    refine zrun_x (va_runI (As := as.map (zcv ad)) (b := ad o) (Ts := zW) (own := M.1.cls) (cc := M.2.1) (nL := M.2.2.1) (n := n) (bytes := M'.2.1) (maxL := M'.2.2.1) ⟨hx, hb, hml, hown, hts⟩ (zCt_met hct D cA ad A) (cwI n hts (zGoodW m2 zW (fun _ h => h)) hmm rfl rfl (hts _ m3) (hts _ hlk) (hts _ hin) hy1 ⟨m5.1, m5.2, hpn⟩ (zcd_room hcd hf hl mc ms)) ⟨zPc_blind, fun U hU hW => ?_⟩ rfl (by simpa using hn) g3.1 ?_ ?_ hd ⟨by omega, by omega⟩)
    · exact zPc_at hC ha g1 g2 hso U hU hW
    · show st.map (zcv ad) = _
      rw [hst]
      simp [List.map_reverse, zcv, va_rf, zadr]
    · exact lv_room (by rw [zcats]; exact hrs)
  exact zW_go (st := st) hC hf hl ha g2 g3 g4 g5 hro hc1 hs1 hF hcall hst9 ⟨fun r' e q => by cases e; exact go q, fun k e => by cases e⟩
theorem zV_callIN {c o : Nat} {r : Option zV} {h' : zH} {host : String} (hd : decode M.2.1 pc = .ok (.invokespecial idx, 3)) (hct : zCt l g' md M' X mc ms (zr (some (c, o)) :: as) h (.inl r, h')) (hcd : zcd M M' n) (hhh : M'.2.2.2.2.1 = []) (hret : M'.2.2.2.1 = none) (hlk : Cond.methodLinkNest M.1.cls idx M'.1 host ∈ zNest) (hin : Cond.instanceMethod M'.1 ∈ zW) (hy1 : M'.1.name = "<init>")
    (hst : st = as.reverse ++ zr (some (c, o)) :: rest) (hn : as.length = n) (hrs : (rest.map zcat).sum ≤ 8) (hst9 : g'.1 = true ∨ g.1 = false) (go : zle g'.1 h h' → zVV l g g'.2 M X bc bs (pc + 3, L, r.toList ++ rest, h') P) : zVV l g md M X (bc + mc) (bs + ms) (pc, L, st, h) P := by
  intro p e R s m args below meth cd D cA ad0 A Q hC hf hl ad H locs ls cells slots ha hG hc1 hs1 hF
  obtain ⟨g1, g2, g3, g4, g5, g6⟩ := hG
  have hC' := hC
  obtain ⟨hx, hb, hr, hml, hown, hts, hlk2, htb, hnm, hKK, hE, hA, -⟩ := hC'
  have g6 : zSok h st := g6
  rw [hst] at g6
  have hso : zSok h (zr (some (c, o)) :: as) := fun v hv => g6 v (by
    rcases List.mem_cons.mp hv with e | e
    · exact List.mem_append_right _ (e ▸ List.mem_cons_self)
    · exact List.mem_append_left _ (List.mem_reverse.mpr e))
  have hro : zSok h rest := fun v hv => g6 v (List.mem_append_right _ (List.mem_cons_of_mem _ hv))
  have hmm : zmw M' = Cond.code M'.1 M'.2.1 M'.2.2.1 none :: zW := by unfold zmw zcw; rw [hhh, hret]
  obtain ⟨hMo, hdp, hpn⟩ := id hcd
  obtain ⟨m1, m2, m3, m4, m5⟩ := hMo
  obtain ⟨-, -, -, -, -, -, -, -, hNw, -⟩ := id hE
  have hcall : vx_Run p l e R s m args below meth cd H locs cells slots mc ms (F0 m pc ls (st.map (zcv ad))) (rest.map (zcv ad)) (zQc g' D cA ad A h (.inl r, h') (Value.ref (ad o) :: as.map (zcv ad)).toArray) (zXC g' D cA ad A h (.inl r, h')) A := by
    refine zrun_x (va_runIN (As := as.map (zcv ad)) (b := ad o) (Ts := zW) (own := M.1.cls) (cc := M.2.1) (nL := M.2.2.1) (n := n) (bytes := M'.2.1) (maxL := M'.2.2.1) (host := host) ⟨hx, hb, hml, hown, hts⟩ (zCt_met hct D cA ad A) ⟨va_cnB n hts (zGoodW m2 zW (fun _ h => h)) hmm rfl rfl (hNw _ hlk) (hts _ m3) ⟨m5.1, m5.2, hpn⟩ (zcd_room hcd hf hl mc ms), hy1, hts _ hin⟩ ⟨zPc_blind, fun U hU hW => ?_⟩ rfl (by simpa using hn) g3.1 ?_ ?_ hd ⟨by omega, by omega⟩)
    · exact zPc_at hC ha g1 g2 hso U hU hW
    · show st.map (zcv ad) = _
      rw [hst]
      simp [List.map_reverse, zcv, va_rf, zadr]
    · exact lv_room (by rw [zcats]; exact hrs)
  exact zW_go (st := st) hC hf hl ha g2 g3 g4 g5 hro hc1 hs1 hF hcall hst9 ⟨fun r' e q => by cases e; exact go q, fun k e => by cases e⟩
end Calls
