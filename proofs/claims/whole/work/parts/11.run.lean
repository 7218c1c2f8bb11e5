/-! ===== what a method's run is: V, its end, what is known at its start ===== -/
/-- a method: its name, bytes, places of locals, answer's type, handlers, how deep it calls -/
abbrev zM : Type := MethodName × ByteArray × Nat × Option FieldType × List (Nat × Nat × Nat × Nat) × Nat
/-- the script: how long, what it has -/
abbrev zX : Type := Nat × (Nat → Int32)
abbrev zC : Type := Nat × List (Option zV) × List zV × zH
/-- an end: what is handed back, or which exception; the heap then -/
abbrev zF : Type := (Option zV ⊕ Nat) × zH
def zslen : List Nat := [3, 3, 2, 3, 4, 3, 2, 3, 5, 4, 4]
def zsbyt : List (List Int32) := [[110, 111, 116], [97, 110, 100], [111, 114], [120, 111, 114], [110, 97, 110, 100], [110, 111, 114], [105, 110], [115, 101, 101], [99, 104, 97, 105, 110], [116, 97, 107, 101], [102, 105, 108, 108]]
def zstr : List (Nat × String) := [(9, "not"), (11, "and"), (13, "or"), (15, "xor"), (17, "nand"), (19, "nor"), (27, "in"), (29, "see"), (31, "chain"), (33, "take"), (35, "fill")]
def zrows : Nat → Int64
  | 0 => -6148914691236517206
  | 1 => -3689348814741910324
  | 2 => -1085102592571150096
  | 3 => -71777214294589696
  | 4 => -281470681808896
  | _ => -4294967296
def zInit (c : String) : MethodName := ⟨c, "<init>", "()V"⟩
def zNest : List Cond := [.methodLinkNest "ScanPacker" 11 (zInit "ScanPacker$Parser") "ScanPacker", .methodLinkNest "ScanPacker$Parser" 11 (zInit "ScanPacker$Tape") "ScanPacker", .methodLinkNest "ScanPacker$Parser" 20 (zInit "ScanPacker$Net") "ScanPacker", .methodLinkNest "ScanPacker" 18 (zInit "ScanPacker$Net") "ScanPacker", .methodLinkNest "ScanPacker" 29 (zInit "ScanPacker$Catalog") "ScanPacker", .methodLinkNest "ScanPacker$Catalog" 38 (zInit "ScanPacker$Waves") "ScanPacker", .methodLinkNest "ScanPacker" 36 (zInit "ScanPacker$Program") "ScanPacker", .methodLinkNest "ScanPacker" 43 (zInit "ScanPacker$Packs") "ScanPacker", .methodLinkNest "ScanPacker" 50 (zInit "ScanPacker$Diagnosis") "ScanPacker", .methodLinkNest "ScanPacker$Session" 11 (zInit "ScanPacker$State") "ScanPacker", .methodLinkNest "ScanPacker" 71 (zInit "ScanPacker$State") "ScanPacker",
  .methodLinkNest "ScanPacker$Net" 68 ⟨"ScanPacker", "bitOf", "(II)I"⟩ "ScanPacker", .methodLinkNest "ScanPacker$Catalog" 146 ⟨"ScanPacker", "bitOf", "(II)I"⟩ "ScanPacker", .methodLinkNest "ScanPacker$State" 40 ⟨"ScanPacker", "bitOf", "(II)I"⟩ "ScanPacker", .methodLinkNest "ScanPacker$State" 51 ⟨"ScanPacker", "withBit", "(III)I"⟩ "ScanPacker", .methodLinkNest "ScanPacker$Catalog" 110 ⟨"ScanPacker", "withBit", "(III)I"⟩ "ScanPacker", .methodLinkNest "ScanPacker$Parser" 113 ⟨"ScanPacker", "bitOf", "(II)I"⟩ "ScanPacker", .methodLinkNest "ScanPacker$Program" 108 ⟨"ScanPacker", "bitOf", "(II)I"⟩ "ScanPacker", .methodLinkNest "ScanPacker$Program" 112 ⟨"ScanPacker", "withBit", "(III)I"⟩ "ScanPacker",
  .castable "java/lang/IllegalArgumentException" "java/lang/IllegalArgumentException", .castable "java/util/NoSuchElementException" "java/util/NoSuchElementException",
  .declares (zInit "java/lang/RuntimeException"), .declares (zInit "java/lang/Exception"), .declares (zInit "java/lang/Throwable")]
def zisNest : Cond → Bool
  | .methodLinkNest _ _ _ _ => true
  | .castable _ _ => true
  | .declares _ => true
  | _ => false
theorem zNest_ok : ∀ w ∈ zNest, zisNest w = true := by decide +kernel
theorem va_AOA.moved {C : FieldType} {u U : State} (hvm : u.vm.Alike U.vm) (h : va_AOA C u) : va_AOA C U := by
  obtain ⟨comp, c, k, h1, h2, h3, h4, h5⟩ := arrayOverA_spec h
  obtain ⟨k', hk', he⟩ := hvm.2.2 _ _ h3
  have hb : U.vm.bare = u.vm.bare := by first | exact hvm.bare_eq | exact hvm.bare_eq.symm
  have e1 := va_idx_bare U.vm comp
  have e2 := va_idx_bare u.vm comp
  rw [hb] at e1
  have hi := e1.symm.trans (e2.trans h2)
  have hkind : k'.kind = .array comp (.array C) := by rw [he]; exact h4
  have f1 : U.vm.findClass (FieldType.array C).toString = some comp := by rw [hvm.findClass]; exact h1
  have f2 : U.vm.findClass ("[" ++ (FieldType.array C).toString) = some c := by rw [hvm.findClass]; exact h5
  unfold va_AOA Cond.before Cond.holds
  simp only [Cond.value]
  rw [f1, Option.bind_some]
  refine (congrArg (fun o : Option Nat => (o.bind (fun c => (U.vm.classes[c]?).map fun (k : Class) => match k.kind with | .array _ ty => decide (ty = FieldType.array C) && decide (U.vm.findClass ("[" ++ (FieldType.array C).toString) = some c) | _ => false) == some true)) hi).trans ?_
  simp [hk', hkind, f2]
/-- the arrays that a law's first steps make -/
def zArr (U : State) : Prop := va_AO "ScanPacker$State" U ∧ va_AO "java/lang/String" U ∧ va_AOA .int U ∧ va_AOA .long U
theorem zArr.moved {u U : State} (hvm : u.vm.Alike U.vm) (h : zArr u) : zArr U := ⟨h.1.moved hvm, h.2.1.moved hvm, h.2.2.1.moved hvm, h.2.2.2.moved hvm⟩
/-- the formatter that a static holds: a reference or null; which of the two, the script's place 5000 says (no script is so long) -/
def zsF (X : zX) : Option (Nat × Nat) := if X.2 5000 = 0 then some (204, zSO + 2) else none
/-- what was there before the law began, and stays -/
def zEnv (X : zX) (ad : Nat → Nat) (A : Nat → Prop) (U : State) (H : Heap) : Prop :=
  vx_Zq Bundle.tN "UNASSIGNED_STACK" Bundle.steD A U H ∧ vx_Zq Bundle.tN "SUPPRESSED_SENTINEL" Bundle.listD A U H ∧ va_Z "java/lang/String" "COMPACT_STRINGS" "Z" (.int 1) A U H ∧
  va_Z "ScanPacker$Catalog" "ROWS_OF_INPUT" "[J" (.ref (ad (zSO + 1))) A U H ∧ va_T .long (ad (zSO + 1)) 6 (fun j => .long (zrows j)) A U H ∧
  vk_S 11 zslen zsbyt (fun i => ad (zSO + 10 + i)) (fun i => ad (zSO + 30 + i)) A U H ∧ (∀ i, i < 11 → vk_R "ScanPackerModel" (zstr.getD i (0, "")).1 (zstr.getD i (0, "")).2 (ad (zSO + 10 + i)) U) ∧
  va_T .int (ad zSO) X.1 (fun j => .int (X.2 j)) A U H ∧ (∀ w ∈ zNest, va_Nw w U) ∧ va_Nc "java/lang/IllegalArgumentException" "java/util/NoSuchElementException" U ∧ zArr U ∧ va_Z "jdk/internal/util/Preconditions" "SIOOBE_FORMATTER" "Ljava/util/function/BiFunction;" (zcv ad (zr (zsF X))) A U H
theorem zEnv.to {X : zX} {ad : Nat → Nat} {A : Nat → Prop} {s U : State} {H H1 : Heap} (h : zEnv X ad A s H) (hvm : s.vm.Alike U.vm) (hR : ∀ {own tx : String} {k a : Nat}, vk_R own k tx a s → vk_R own k tx a U) (hN : ∀ w ∈ zNest, va_Nw w s → va_Nw w U)
    (hq : ∀ a : Nat, a < H.size → ¬ A a → H1[a]? = H[a]?) : zEnv X ad A U H1 := by
  obtain ⟨h1, h2, h3, h4, h5, h6, h7, h8, h9, h10, h11, h12⟩ := h
  exact ⟨(h1.moved hvm).kept hq, (h2.moved hvm).kept hq, (h3.moved hvm).kept hq, (h4.moved hvm).kept hq, (h5.moved hvm).kept hq, (h6.moved hvm).kept hq, fun i hi => hR (h7 i hi), (h8.moved hvm).kept hq, fun w hw => hN w hw (h9 w hw), h10.moved hvm, h11.moved hvm, (h12.moved hvm).kept hq⟩
theorem zNest_warm {s U : State} (hW : s.WarmedH U.vm) : ∀ w ∈ zNest, va_Nw w s → va_Nw w U := by
  intro w hw h
  have h1 := zNest_ok w hw
  cases w <;> first | (exact va_Nw.warmM hW h) | (exact va_Nw.warmC hW h) | (exact va_Nw.warmD hW h) | cases h1
theorem zNest_same {s U : State} (hW : s.vm = U.vm) : ∀ w ∈ zNest, va_Nw w s → va_Nw w U := by
  intro w hw h
  have h1 := zNest_ok w hw
  cases w <;> first | (exact va_Nw.same rfl hW h) | cases h1
theorem zEnv.warm {X : zX} {ad : Nat → Nat} {A : Nat → Prop} {s U : State} {H H1 : Heap} (h : zEnv X ad A s H) (hW : s.WarmedH U.vm) (hq : ∀ a : Nat, a < H.size → ¬ A a → H1[a]? = H[a]?) : zEnv X ad A U H1 :=
  h.to hW.alike (fun h => vk_R.warm hW h) (zNest_warm hW) hq
theorem zEnv.same {X : zX} {ad : Nat → Nat} {A : Nat → Prop} {s U : State} {H : Heap} (h : zEnv X ad A s H) (hv : U.vm = s.vm) : zEnv X ad A U H :=
  h.to (by rw [hv]; exact Vm.Alike.refl _) (fun h => vk_R.same hv h) (zNest_same hv.symm) (fun _ _ _ => rfl)
theorem zEnv.ag {X : zX} {ad ad' : Nat → Nat} {A : Nat → Prop} {s : State} {H : Heap} (h : zEnv X ad A s H) (ha : zag 0 ad ad') : zEnv X ad' A s H := by
  have e : ∀ k, ad' (zSO + k) = ad (zSO + k) := fun k => ha _ (Or.inr (Nat.le_add_right _ _))
  have e0 : ad' zSO = ad zSO := ha _ (Or.inr (Nat.le_refl _))
  unfold zEnv at h ⊢
  have e1 : (fun i => ad' (zSO + 10 + i)) = fun i => ad (zSO + 10 + i) := funext fun i => by rw [Nat.add_assoc]; exact e _
  have e2 : (fun i => ad' (zSO + 30 + i)) = fun i => ad (zSO + 30 + i) := funext fun i => by rw [Nat.add_assoc]; exact e _
  have e3 : ∀ i, ad' (zSO + 10 + i) = ad (zSO + 10 + i) := fun i => congrFun e1 i
  have e4 : zcv ad' (zr (zsF X)) = zcv ad (zr (zsF X)) := by
    unfold zsF
    by_cases h9 : X.2 5000 = 0
    · rw [if_pos h9]
      show Value.ref (ad' (zSO + 2)) = Value.ref (ad (zSO + 2))
      rw [e 2]
    · rw [if_neg h9]
      rfl
  rw [e 1, e4, e0, e1, e2]
  simpa only [e3] using h
def ztys (cA : Nat → ClassId) : List (ClassId × FieldType) := (List.range 128).map (fun c => (cA c, zel c))
theorem ztys_get {cA : Nat → ClassId} {c : Nat} (h : c < 128) : (ztys cA)[c]? = some (cA c, zel c) := by simp [ztys, List.getElem?_map, List.getElem?_range h]
/-- what holds all through a run of the method M -/
def zCx (l : Launch) (M : zM) (X : zX) (D : va_G) (cA : Nat → ClassId) (ad0 : Nat → Nat) (A : Nat → Prop) (p : Program) (s : State) (m : MethodId) (args : Array Value) (meth : Method) (cd : Code) : Prop :=
  p.tables.exec = Jvm.exec ∧ cd.code = M.2.1 ∧ meth.sig.returnType = M.2.2.2.1 ∧ cd.maxLocals = M.2.2.1 ∧ s.vm.findClass M.1.cls = some m.cls ∧ (∀ w ∈ zW, w.before args s = true) ∧ meth.locks = false ∧
  cd.exceptionTable.toList = tableOf M.2.2.2.2.1 ∧ meth.name = M.1.name ∧ va_K D classes (ztys cA) s ∧ zEnv X ad0 A s s.heap ∧ (∀ q, s.heap.size ≤ q → A q) ∧ l.stackTraces = false
/-- the world at a step -/
def zWd (md : Nat) (D : va_G) (cA : Nat → ClassId) (ad : Nat → Nat) (A : Nat → Prop) (h : zH) (H : Heap) : Prop :=
  va_P D classes (zws md cA ad h) H ∧ va_D A (zws md cA ad h) ∧ zRok md h ∧ ztop h ≤ zSO
def zLok (h : zH) (L : List (Option zV)) : Prop := ∀ v, some v ∈ L → zvok h v
def zSok (h : zH) (st : List zV) : Prop := ∀ v ∈ st, zvok h v
def zGd (md : Nat) (M : zM) (D : va_G) (cA : Nat → ClassId) (ad : Nat → Nat) (A : Nat → Prop) (s : State) (c : zC) (H : Heap) (locs : List Loc) (ls : Array Slot) : Prop :=
  zWd md D cA ad A c.2.2.2 H ∧ va_S A s.heap H locs ∧ lv_has ls M.2.2.1 (zE ad 0 c.2.1) ∧ c.2.1.length = M.2.2.1 ∧ zLok c.2.2.2 c.2.1 ∧ zSok c.2.2.2 c.2.2.1
/-- the instruction that hands r back fits the method -/
def zrd (M : zM) (r : Option zV) (pc : Nat) : Prop := match r with
  | none => M.2.2.2.1 = none ∧ decode M.2.1 pc = .ok (.return_, 1)
  | some (.inl x) => (∃ ty, M.2.2.2.1 = some ty ∧ narrow ty (.int x) = .int x) ∧ decode M.2.1 pc = .ok (.ireturn, 1)
  | some (.inr (.inl _)) => M.2.2.2.1 = some .long ∧ decode M.2.1 pc = .ok (.lreturn, 1)
  | some (.inr (.inr _)) => (∃ ty, M.2.2.2.1 = some ty ∧ ((∃ n, ty = .object n) ∨ ∃ t, ty = .array t)) ∧ decode M.2.1 pc = .ok (.areturn, 1)
def zFin (g : Bool × Nat) (M : zM) (p : Program) (l : Launch) (e : Env) (R : Room) (s : State) (m : MethodId) (args : Array Value) (below : List Frame) (meth : Method) (cd : Code) (D : va_G) (cA : Nat → ClassId) (A : Nat → Prop) (Q : State → Prop) (h : zH) (ad : Nat → Nat) (f : zF) : Prop :=
  ∀ (ad' : Nat → Nat) (H : Heap) (locs : List Loc) (cells slots pc : Nat) (ls : Array Slot), zag (ztop h) ad ad' → zWd g.2 D cA ad' A f.2 H → va_S A s.heap H locs → zle g.1 h f.2 → cells ≤ R.cells → slots ≤ R.slots →
    (∀ r, f.1 = .inl r → (∀ v, r = some v → zvok f.2 v) → zrd M r pc → W p l e R s m args below meth cd H locs cells slots Q (F0 m pc ls (r.toList.map (zcv ad')))) ∧
    (∀ k, f.1 = .inr k → M.2.2.2.2.1 = [] → ∀ (q : Nat) (ce : Cell) (rest : List Value), H[q]? = some ce → ce.vm = .none → s.vm.findClass (zexn k) = some ce.cls → vx_W p l e R s m args below meth cd H locs cells slots Q (F0 m pc ls rest) q)
theorem zFin.mono {g : Bool × Nat} {M : zM} {p : Program} {l : Launch} {e : Env} {R : Room} {s : State} {m : MethodId} {args : Array Value} {below : List Frame} {meth : Method} {cd : Code} {D : va_G} {cA : Nat → ClassId} {A : Nat → Prop} {Q : State → Prop} {h h' : zH} {ad ad' : Nat → Nat} {f : zF}
    (k : zFin g M p l e R s m args below meth cd D cA A Q h ad f) (ha : zag (ztop h) ad ad') (hn : zle g.1 h h') : zFin g M p l e R s m args below meth cd D cA A Q h' ad' f :=
  fun ad2 H locs cells slots pc ls h1 h2 h3 h4 h5 h6 => k ad2 H locs cells slots pc ls (ha.trans h1 hn.weak.1) h2 h3 (hn.trans h4) h5 h6
/-- from the step c on, with bc cells and bs places left to make, the method comes to an end of P -/
def zVV (l : Launch) (g : Bool × Nat) (md : Nat) (M : zM) (X : zX) (bc bs : Nat) (c : zC) (P : zF → Prop) : Prop :=
  ∀ (p : Program) (e : Env) (R : Room) (s : State) (m : MethodId) (args : Array Value) (below : List Frame) (meth : Method) (cd : Code) (D : va_G) (cA : Nat → ClassId) (ad0 : Nat → Nat) (A : Nat → Prop) (Q : State → Prop),
    zCx l M X D cA ad0 A p s m args meth cd → M.2.2.2.2.2 ≤ R.frames → 80 * M.2.2.2.2.2 ≤ R.locals →
    ∀ (ad : Nat → Nat) (H : Heap) (locs : List Loc) (ls : Array Slot) (cells slots : Nat), zag 0 ad0 ad → zGd md M D cA ad A s c H locs ls → cells + bc ≤ R.cells → slots + bs ≤ R.slots →
    (∀ f, P f → zFin g M p l e R s m args below meth cd D cA A Q c.2.2.2 ad f) →
    W p l e R s m args below meth cd H locs cells slots Q (F0 m c.1 ls (c.2.2.1.map (zcv ad)))
theorem zVV.weaken {l : Launch} {g : Bool × Nat} {md : Nat} {M : zM} {X : zX} {bc bs : Nat} {c : zC} {P P' : zF → Prop} (h : zVV l g md M X bc bs c P) (hP : ∀ f, P f → P' f) : zVV l g md M X bc bs c P' :=
  fun p e R s m args below meth cd D cA ad0 A Q hC hf hl ad H locs ls cells slots ha hG hc hs hF => h p e R s m args below meth cd D cA ad0 A Q hC hf hl ad H locs ls cells slots ha hG hc hs (fun f hf => hF f (hP f hf))
/-- fewer locals known -/
theorem zVV.forget {l : Launch} {g : Bool × Nat} {md : Nat} {M : zM} {X : zX} {bc bs pc : Nat} {L L' : List (Option zV)} {st : List zV} {h : zH} {P : zF → Prop} (hs : ∀ (i : Nat) (v : zV), L'[i]? = some (some v) → L[i]? = some (some v)) (hn : L'.length = L.length)
    (k : zVV l g md M X bc bs (pc, L', st, h) P) : zVV l g md M X bc bs (pc, L, st, h) P := by
  intro p e R s m args below meth cd D cA ad0 A Q hC hf hl ad H locs ls cells slots ha hG hc hs2 hF
  obtain ⟨g1, g2, g3, g4, g5, g6⟩ := hG
  refine k p e R s m args below meth cd D cA ad0 A Q hC hf hl ad H locs ls cells slots ha ⟨g1, g2, zhas_mono g3 ?_, hn.trans g4, ?_, g6⟩ hc hs2 hF
  · have key : ∀ (a : List (Option zV)) (b j : Nat) (w : Value), (j, w) ∈ zE ad b a → ∃ (i : Nat) (v : zV), a[i]? = some (some v) ∧ j = b + i ∧ w = zcv ad v := by
      intro a
      induction a with
      | nil => intro b j w h; cases h
      | cons x r ih =>
        intro b j w h
        cases x with
        | none =>
          obtain ⟨i, v, q1, q2, q3⟩ := ih (b + 1) j w h
          exact ⟨i + 1, v, by simpa using q1, by omega, q3⟩
        | some x =>
          rcases List.mem_cons.mp h with h | h
          · cases h
            exact ⟨0, x, by simp, rfl, rfl⟩
          · obtain ⟨i, v, q1, q2, q3⟩ := ih (b + 1) j w h
            exact ⟨i + 1, v, by simpa using q1, by omega, q3⟩
    intro q hq
    obtain ⟨j, w⟩ := q
    obtain ⟨i, v, q1, q2, q3⟩ := key _ _ _ _ hq
    rw [q2, q3]
    exact zE_get L 0 i v (hs i v q1)
  · intro v hv
    obtain ⟨i, hi⟩ := List.getElem?_of_mem hv
    exact g5 v (List.mem_of_getElem? (hs i v hi))
/-! ===== steps that touch locals and stack alone ===== -/
def zshl (x y : Int32) : Int32 := x <<< (y &&& 31)
def zshr (x y : Int32) : Int32 := x >>> (y &&& 31)
def zushr (x y : Int32) : Int32 := (x.toUInt32 >>> (y.toUInt32 &&& Int32.toUInt32 31)).toInt32
def zlshl (x : Int64) (y : Int32) : Int64 := x <<< (y.toInt64 &&& 63)
def zlushr (x : Int64) (y : Int32) : Int64 := (x.toUInt64 >>> (y.toInt64.toUInt64 &&& Int64.toUInt64 63)).toInt64
abbrev zT1 : Type := Nat × List (Option zV) × List zV
def zpI (st : List zV) (k : Int32 → List zV → Option zT1) : Option zT1 := match st with
  | .inl x :: r => k x r
  | _ => none
def zpL (st : List zV) (k : Int64 → List zV → Option zT1) : Option zT1 := match st with
  | .inr (.inl x) :: r => k x r
  | _ => none
def zpR (st : List zV) (k : (Nat × Nat) → List zV → Option zT1) : Option zT1 := match st with
  | .inr (.inr (some x)) :: r => k x r
  | _ => none
def zpA (st : List zV) (k : zV → List zV → Option zT1) : Option zT1 := match st with
  | .inl x :: r => k (.inl x) r
  | .inr (.inr x) :: r => k (.inr (.inr x)) r
  | _ => none
def zgI (L : List (Option zV)) (i : Nat) (k : Int32 → Option zT1) : Option zT1 := match L[i]? with
  | some (some (.inl x)) => k x
  | _ => none
def zgL (L : List (Option zV)) (i : Nat) (k : Int64 → Option zT1) : Option zT1 := match L[i]? with
  | some (some (.inr (.inl x))) => k x
  | _ => none
def zgR (L : List (Option zV)) (i : Nat) (k : (Nat × Nat) → Option zT1) : Option zT1 := match L[i]? with
  | some (some (.inr (.inr (some x)))) => k x
  | _ => none
theorem zpI_s {st : List zV} {k : Int32 → List zV → Option zT1} {z : zT1} (h : zpI st k = some z) : ∃ x r, st = zi x :: r ∧ k x r = some z := by
  unfold zpI at h
  split at h
  · exact ⟨_, _, rfl, h⟩
  · cases h
theorem zpL_s {st : List zV} {k : Int64 → List zV → Option zT1} {z : zT1} (h : zpL st k = some z) : ∃ x r, st = zl x :: r ∧ k x r = some z := by
  unfold zpL at h
  split at h
  · exact ⟨_, _, rfl, h⟩
  · cases h
theorem zpR_s {st : List zV} {k : (Nat × Nat) → List zV → Option zT1} {z : zT1} (h : zpR st k = some z) : ∃ x r, st = zr (some x) :: r ∧ k x r = some z := by
  unfold zpR at h
  split at h
  · exact ⟨_, _, rfl, h⟩
  · cases h
theorem zpA_s {st : List zV} {k : zV → List zV → Option zT1} {z : zT1} (h : zpA st k = some z) : ∃ x r, st = x :: r ∧ zcat x = 1 ∧ k x r = some z := by
  unfold zpA at h
  split at h
  · exact ⟨_, _, rfl, rfl, h⟩
  · exact ⟨_, _, rfl, rfl, h⟩
  · cases h
theorem zgI_s {L : List (Option zV)} {i : Nat} {k : Int32 → Option zT1} {z : zT1} (h : zgI L i k = some z) : ∃ x, L[i]? = some (some (zi x)) ∧ k x = some z := by
  unfold zgI at h
  split at h
  · rename_i h1
    exact ⟨_, h1, h⟩
  · cases h
theorem zgL_s {L : List (Option zV)} {i : Nat} {k : Int64 → Option zT1} {z : zT1} (h : zgL L i k = some z) : ∃ x, L[i]? = some (some (zl x)) ∧ k x = some z := by
  unfold zgL at h
  split at h
  · rename_i h1
    exact ⟨_, h1, h⟩
  · cases h
theorem zgR_s {L : List (Option zV)} {i : Nat} {k : (Nat × Nat) → Option zT1} {z : zT1} (h : zgR L i k = some z) : ∃ x, L[i]? = some (some (zr (some x))) ∧ k x = some z := by
  unfold zgR at h
  split at h
  · rename_i h1
    exact ⟨_, h1, h⟩
  · cases h
def zx1 (i : Instr) (pc : Nat) (L : List (Option zV)) (st : List zV) : Option zT1 := match i with
  | .iconst n => some (pc + 1, L, zi (Int32.ofInt n) :: st)
  | .bipush n => some (pc + 2, L, zi (Int8.ofInt n).toInt32 :: st)
  | .sipush n => some (pc + 3, L, zi (Int16.ofInt n).toInt32 :: st)
  | .lconst n => some (pc + 1, L, zl (Int64.ofNat n.val) :: st)
  | .iload_n k => zgI L k.val fun x => some (pc + 1, L, zi x :: st)
  | .iload k => zgI L k fun x => some (pc + 2, L, zi x :: st)
  | .istore_n k => zpI st fun x st => if k.val < L.length then some (pc + 1, zs1 L k.val (zi x), st) else none
  | .istore k => zpI st fun x st => if k < L.length then some (pc + 2, zs1 L k (zi x), st) else none
  | .lload_n k => zgL L k.val fun x => some (pc + 1, L, zl x :: st)
  | .lload k => zgL L k fun x => some (pc + 2, L, zl x :: st)
  | .lstore_n k => zpL st fun x st => if k.val + 1 < L.length then some (pc + 1, zs2 L k.val (zl x), st) else none
  | .lstore k => zpL st fun x st => if k + 1 < L.length then some (pc + 2, zs2 L k (zl x), st) else none
  | .aload_n k => zgR L k.val fun x => some (pc + 1, L, zr (some x) :: st)
  | .aload k => zgR L k fun x => some (pc + 2, L, zr (some x) :: st)
  | .astore_n k => zpR st fun x st => if k.val < L.length then some (pc + 1, zs1 L k.val (zr (some x)), st) else none
  | .astore k => zpR st fun x st => if k < L.length then some (pc + 2, zs1 L k (zr (some x)), st) else none
  | .iinc k n => zgI L k fun x => some (pc + 3, zs1 L k (zi (x + Int32.ofInt n)), st)
  | .iadd => zpI st fun y st => zpI st fun x st => some (pc + 1, L, zi (x + y) :: st)
  | .isub => zpI st fun y st => zpI st fun x st => some (pc + 1, L, zi (x - y) :: st)
  | .imul => zpI st fun y st => zpI st fun x st => some (pc + 1, L, zi (x * y) :: st)
  | .iand => zpI st fun y st => zpI st fun x st => some (pc + 1, L, zi (x &&& y) :: st)
  | .ior => zpI st fun y st => zpI st fun x st => some (pc + 1, L, zi (x ||| y) :: st)
  | .ixor => zpI st fun y st => zpI st fun x st => some (pc + 1, L, zi (x ^^^ y) :: st)
  | .ishl => zpI st fun y st => zpI st fun x st => some (pc + 1, L, zi (zshl x y) :: st)
  | .ishr => zpI st fun y st => zpI st fun x st => some (pc + 1, L, zi (zshr x y) :: st)
  | .iushr => zpI st fun y st => zpI st fun x st => some (pc + 1, L, zi (zushr x y) :: st)
  | .ladd => zpL st fun y st => zpL st fun x st => some (pc + 1, L, zl (x + y) :: st)
  | .lsub => zpL st fun y st => zpL st fun x st => some (pc + 1, L, zl (x - y) :: st)
  | .land => zpL st fun y st => zpL st fun x st => some (pc + 1, L, zl (x &&& y) :: st)
  | .lor => zpL st fun y st => zpL st fun x st => some (pc + 1, L, zl (x ||| y) :: st)
  | .lxor => zpL st fun y st => zpL st fun x st => some (pc + 1, L, zl (x ^^^ y) :: st)
  | .lshl => zpI st fun y st => zpL st fun x st => some (pc + 1, L, zl (zlshl x y) :: st)
  | .lushr => zpI st fun y st => zpL st fun x st => some (pc + 1, L, zl (zlushr x y) :: st)
  | .lcmp => zpL st fun y st => zpL st fun x st => some (pc + 1, L, zi (lg_cmp x y) :: st)
  | .i2l => zpI st fun x st => some (pc + 1, L, zl x.toInt64 :: st)
  | .l2i => zpL st fun x st => some (pc + 1, L, zi x.toInt32 :: st)
  | .i2b => zpI st fun x st => some (pc + 1, L, zi x.toInt8.toInt32 :: st)
  | .i2c => zpI st fun x st => some (pc + 1, L, zi (x.toUInt32 % 65536).toInt32 :: st)
  | .dup => zpA st fun x st => some (pc + 1, L, x :: x :: st)
  | .pop => zpA st fun _ st => some (pc + 1, L, st)
  | .dup2 => zpA st fun x st => zpA st fun y st => some (pc + 1, L, x :: y :: x :: y :: st)
  | .goto off => if 0 ≤ (pc : Int) + off then some (((pc : Int) + off).toNat, L, st) else none
  | _ => none
theorem zx_at {i nL : Nat} {ad : Nat → Nat} {ls : Array Slot} {L : List (Option zV)} {v : zV} (hl : lv_has ls nL (zE ad 0 L)) (h : L[i]? = some (some v)) : ls[i]? = some (.val (zcv ad v)) := by
  have := hl.2.2 _ (zE_get (ad := ad) L 0 i v h)
  simpa using this
/-- how long each instruction is (a switch: asked elsewhere) -/
def zil : Instr → Nat
  | .bipush _ | .iload _ | .lload _ | .aload _ | .istore _ | .lstore _ | .astore _ | .ldc _ | .newarray _ => 2
  | .sipush _ | .iinc _ _ | .goto _ | .getfield _ | .putfield _ | .getstatic _ | .ifCond _ _ | .if_icmp _ _ | .if_acmp _ _ | .ldc_w _ | .ldc2_w _ | .new _ | .anewarray _ | .invokevirtual _ | .invokespecial _ | .invokestatic _ => 3
  | .multianewarray _ _ => 4
  | _ => 1
set_option maxHeartbeats 2000000 in
theorem zx1_sound {p : Program} {l : Launch} {e : Env} {R : Room} {s : State} {m : MethodId} {args : Array Value} {below : List Frame} {meth : Method} {cd : Code} {H : Heap} {locs : List Loc} {cells slots : Nat} {Q : State → Prop}
    {cc : ByteArray} {ad : Nat → Nat} {pc pc' nL : Nat} {ls : Array Slot} {L L' : List (Option zV)} {st st' : List zV} {i : Instr} (hx : p.tables.exec = Jvm.exec) (hb : cd.code = cc) (hl : lv_has ls nL (zE ad 0 L)) (hn : L.length = nL) (hd : decode cc pc = .ok (i, zil i))
    (h : zx1 i pc L st = some (pc', L', st')) (kk : ∀ ls', lv_has ls' nL (zE ad 0 L') → W p l e R s m args below meth cd H locs cells slots Q (F0 m pc' ls' (st'.map (zcv ad)))) : W p l e R s m args below meth cd H locs cells slots Q (F0 m pc ls (st.map (zcv ad))) := by
  have inj : ∀ {a a' : Nat} {b b' : List (Option zV)} {c c' : List zV}, some (a, b, c) = some (a', b', c') → a = a' ∧ b = b' ∧ c = c' := by
    intro a a' b b' c c' h
    cases h
    exact ⟨rfl, rfl, rfl⟩
  cases i
  case iconst n =>
    obtain ⟨rfl, rfl, rfl⟩ := inj h
    exact lv_iconst hx hb hd rfl (kk ls hl)
  case bipush n =>
    obtain ⟨rfl, rfl, rfl⟩ := inj h
    exact lv_bipush hx hb hd rfl (kk ls hl)
  case sipush n =>
    obtain ⟨rfl, rfl, rfl⟩ := inj h
    exact lv_sipush hx hb hd rfl (kk ls hl)
  case lconst n =>
    obtain ⟨rfl, rfl, rfl⟩ := inj h
    exact lv_lconst hx hb hd rfl (kk ls hl)
  case iload_n k =>
    obtain ⟨x, hk, h1⟩ := zgI_s h
    obtain ⟨rfl, rfl, rfl⟩ := inj h1
    exact lv_iload_n hx hb hd rfl (zx_at hl hk) (kk ls hl)
  case istore_n k =>
    obtain ⟨x, r, rfl, h1⟩ := zpI_s h
    split at h1
    · obtain ⟨rfl, rfl, rfl⟩ := inj h1
      exact lv_istore_n hx hb hd rfl hl (by omega) rfl (fun ls2 h2 => kk ls2 (zhas_s1 h2))
    · cases h1
  case iload k =>
    obtain ⟨x, hk, h1⟩ := zgI_s h
    obtain ⟨rfl, rfl, rfl⟩ := inj h1
    exact lv_iload hx hb hd (zx_at hl hk) (kk ls hl)
  case istore k =>
    obtain ⟨x, r, rfl, h1⟩ := zpI_s h
    split at h1
    · obtain ⟨rfl, rfl, rfl⟩ := inj h1
      exact lv_istore hx hb hd hl (by omega) rfl (fun ls2 h2 => kk ls2 (zhas_s1 h2))
    · cases h1
  case lload_n k =>
    obtain ⟨x, hk, h1⟩ := zgL_s h
    obtain ⟨rfl, rfl, rfl⟩ := inj h1
    exact lv_lload_n hx hb hd rfl (zx_at hl hk) (kk ls hl)
  case lstore_n k =>
    obtain ⟨x, r, rfl, h1⟩ := zpL_s h
    split at h1
    · obtain ⟨rfl, rfl, rfl⟩ := inj h1
      exact lv_lstore_n hx hb hd rfl hl (by omega) rfl (fun ls2 h2 => kk ls2 (zhas_s2 h2))
    · cases h1
  case lload k =>
    obtain ⟨x, hk, h1⟩ := zgL_s h
    obtain ⟨rfl, rfl, rfl⟩ := inj h1
    exact lv_lload hx hb hd (zx_at hl hk) (kk ls hl)
  case lstore k =>
    obtain ⟨x, r, rfl, h1⟩ := zpL_s h
    split at h1
    · obtain ⟨rfl, rfl, rfl⟩ := inj h1
      exact lv_lstore hx hb hd hl (by omega) rfl (fun ls2 h2 => kk ls2 (zhas_s2 h2))
    · cases h1
  case aload_n k =>
    obtain ⟨x, hk, h1⟩ := zgR_s h
    obtain ⟨rfl, rfl, rfl⟩ := inj h1
    exact lv_aload_n hx hb hd rfl (zx_at hl hk) (kk ls hl)
  case astore_n k =>
    obtain ⟨x, r, rfl, h1⟩ := zpR_s h
    split at h1
    · obtain ⟨rfl, rfl, rfl⟩ := inj h1
      exact lv_astore_n hx hb hd rfl hl (by omega) rfl (fun ls2 h2 => kk ls2 (zhas_s1 h2))
    · cases h1
  case aload k =>
    obtain ⟨x, hk, h1⟩ := zgR_s h
    obtain ⟨rfl, rfl, rfl⟩ := inj h1
    exact lv_aload hx hb hd (zx_at hl hk) (kk ls hl)
  case astore k =>
    obtain ⟨x, r, rfl, h1⟩ := zpR_s h
    split at h1
    · obtain ⟨rfl, rfl, rfl⟩ := inj h1
      exact lv_astore hx hb hd hl (by omega) rfl (fun ls2 h2 => kk ls2 (zhas_s1 h2))
    · cases h1
  case iinc k n =>
    obtain ⟨x, hk, h1⟩ := zgI_s h
    obtain ⟨rfl, rfl, rfl⟩ := inj h1
    have h9 := zE_get (ad := ad) L 0 k _ hk
    rw [Nat.zero_add] at h9
    obtain ⟨j, hj⟩ := List.getElem?_of_mem h9
    have hlt := (List.getElem?_eq_some_iff.mp hk).1
    exact lv_iinc hx hb hd hl (k := j) hj rfl (by omega) rfl (fun ls2 h2 => kk ls2 (zhas_s1 h2))
  case iadd =>
    obtain ⟨y, r1, rfl, h1⟩ := zpI_s h
    obtain ⟨x, r, rfl, h2⟩ := zpI_s h1
    obtain ⟨rfl, rfl, rfl⟩ := inj h2
    exact lv_iadd hx hb hd (kk ls hl)
  case isub =>
    obtain ⟨y, r1, rfl, h1⟩ := zpI_s h
    obtain ⟨x, r, rfl, h2⟩ := zpI_s h1
    obtain ⟨rfl, rfl, rfl⟩ := inj h2
    exact lv_isub hx hb hd (kk ls hl)
  case imul =>
    obtain ⟨y, r1, rfl, h1⟩ := zpI_s h
    obtain ⟨x, r, rfl, h2⟩ := zpI_s h1
    obtain ⟨rfl, rfl, rfl⟩ := inj h2
    exact lv_imul hx hb hd (kk ls hl)
  case iand =>
    obtain ⟨y, r1, rfl, h1⟩ := zpI_s h
    obtain ⟨x, r, rfl, h2⟩ := zpI_s h1
    obtain ⟨rfl, rfl, rfl⟩ := inj h2
    exact lv_iand hx hb hd (kk ls hl)
  case ior =>
    obtain ⟨y, r1, rfl, h1⟩ := zpI_s h
    obtain ⟨x, r, rfl, h2⟩ := zpI_s h1
    obtain ⟨rfl, rfl, rfl⟩ := inj h2
    exact lv_ior hx hb hd (kk ls hl)
  case ixor =>
    obtain ⟨y, r1, rfl, h1⟩ := zpI_s h
    obtain ⟨x, r, rfl, h2⟩ := zpI_s h1
    obtain ⟨rfl, rfl, rfl⟩ := inj h2
    exact lv_ixor hx hb hd (kk ls hl)
  case ishl =>
    obtain ⟨y, r1, rfl, h1⟩ := zpI_s h
    obtain ⟨x, r, rfl, h2⟩ := zpI_s h1
    obtain ⟨rfl, rfl, rfl⟩ := inj h2
    exact lv_ishl hx hb hd (kk ls hl)
  case ishr =>
    obtain ⟨y, r1, rfl, h1⟩ := zpI_s h
    obtain ⟨x, r, rfl, h2⟩ := zpI_s h1
    obtain ⟨rfl, rfl, rfl⟩ := inj h2
    exact lv_ishr hx hb hd (kk ls hl)
  case iushr =>
    obtain ⟨y, r1, rfl, h1⟩ := zpI_s h
    obtain ⟨x, r, rfl, h2⟩ := zpI_s h1
    obtain ⟨rfl, rfl, rfl⟩ := inj h2
    exact lv_iushr hx hb hd rfl (kk ls hl)
  case ladd =>
    obtain ⟨y, r1, rfl, h1⟩ := zpL_s h
    obtain ⟨x, r, rfl, h2⟩ := zpL_s h1
    obtain ⟨rfl, rfl, rfl⟩ := inj h2
    exact lv_ladd hx hb hd (kk ls hl)
  case lsub =>
    obtain ⟨y, r1, rfl, h1⟩ := zpL_s h
    obtain ⟨x, r, rfl, h2⟩ := zpL_s h1
    obtain ⟨rfl, rfl, rfl⟩ := inj h2
    exact lv_lsub hx hb hd (kk ls hl)
  case land =>
    obtain ⟨y, r1, rfl, h1⟩ := zpL_s h
    obtain ⟨x, r, rfl, h2⟩ := zpL_s h1
    obtain ⟨rfl, rfl, rfl⟩ := inj h2
    exact lv_land hx hb hd (kk ls hl)
  case lor =>
    obtain ⟨y, r1, rfl, h1⟩ := zpL_s h
    obtain ⟨x, r, rfl, h2⟩ := zpL_s h1
    obtain ⟨rfl, rfl, rfl⟩ := inj h2
    exact lv_lor hx hb hd (kk ls hl)
  case lxor =>
    obtain ⟨y, r1, rfl, h1⟩ := zpL_s h
    obtain ⟨x, r, rfl, h2⟩ := zpL_s h1
    obtain ⟨rfl, rfl, rfl⟩ := inj h2
    exact lv_lxor hx hb hd (kk ls hl)
  case lshl =>
    obtain ⟨y, r1, rfl, h1⟩ := zpI_s h
    obtain ⟨x, r, rfl, h2⟩ := zpL_s h1
    obtain ⟨rfl, rfl, rfl⟩ := inj h2
    exact lv_lshl hx hb hd rfl (kk ls hl)
  case lushr =>
    obtain ⟨y, r1, rfl, h1⟩ := zpI_s h
    obtain ⟨x, r, rfl, h2⟩ := zpL_s h1
    obtain ⟨rfl, rfl, rfl⟩ := inj h2
    exact lv_lushr hx hb hd rfl (kk ls hl)
  case lcmp =>
    obtain ⟨y, r1, rfl, h1⟩ := zpL_s h
    obtain ⟨x, r, rfl, h2⟩ := zpL_s h1
    obtain ⟨rfl, rfl, rfl⟩ := inj h2
    exact W.lcmp hx hb hd (kk ls hl)
  case i2l =>
    obtain ⟨x, r, rfl, h1⟩ := zpI_s h
    obtain ⟨rfl, rfl, rfl⟩ := inj h1
    exact lv_i2l hx hb hd rfl (kk ls hl)
  case l2i =>
    obtain ⟨x, r, rfl, h1⟩ := zpL_s h
    obtain ⟨rfl, rfl, rfl⟩ := inj h1
    exact lv_l2i hx hb hd rfl (kk ls hl)
  case i2b =>
    obtain ⟨x, r, rfl, h1⟩ := zpI_s h
    obtain ⟨rfl, rfl, rfl⟩ := inj h1
    exact lv_i2b hx hb hd rfl (kk ls hl)
  case i2c =>
    obtain ⟨x, r, rfl, h1⟩ := zpI_s h
    obtain ⟨rfl, rfl, rfl⟩ := inj h1
    exact lv_i2c hx hb hd rfl (kk ls hl)
  case dup =>
    have h : zpA st (fun x st => some (pc + 1, L, x :: x :: st)) = some (pc', L', st') := h
    obtain ⟨x, r, rfl, hc, h1⟩ := zpA_s h
    obtain ⟨rfl, rfl, rfl⟩ := inj h1
    exact lv_dup hx hb hd (by rw [zcat_cv, hc]) (kk ls hl)
  case pop =>
    have h : zpA st (fun _ st => some (pc + 1, L, st)) = some (pc', L', st') := h
    obtain ⟨x, r, rfl, hc, h1⟩ := zpA_s h
    obtain ⟨rfl, rfl, rfl⟩ := inj h1
    exact lv_pop hx hb hd (by rw [zcat_cv, hc]) (kk ls hl)
  case dup2 =>
    have h : zpA st (fun x st => zpA st fun y st => some (pc + 1, L, x :: y :: x :: y :: st)) = some (pc', L', st') := h
    obtain ⟨x, r1, rfl, hc, h1⟩ := zpA_s h
    obtain ⟨y, r, rfl, hc2, h2⟩ := zpA_s h1
    obtain ⟨rfl, rfl, rfl⟩ := inj h2
    exact lv_dup2_11 hx hb hd (by rw [zcat_cv, hc]) (by rw [zcat_cv, hc2]) (kk ls hl)
  case goto off =>
    dsimp only [zx1] at h
    split at h
    · rename_i h0
      obtain ⟨rfl, rfl, rfl⟩ := inj h
      exact lv_goto hx hb hd (by omega) (kk ls hl)
    · cases h
  all_goals cases h
