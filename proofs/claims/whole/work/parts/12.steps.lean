/-! ===== steps, rule by rule ===== -/
/-- whatever follows c' follows c -/
def zStp (l : Launch) (md : Nat) (M : zM) (X : zX) (c c' : zC) : Prop :=
  ∀ (p : Program) (e : Env) (R : Room) (s : State) (m : MethodId) (args : Array Value) (below : List Frame) (meth : Method) (cd : Code) (D : va_G) (cA : Nat → ClassId) (ad0 : Nat → Nat) (A : Nat → Prop) (Q : State → Prop),
    zCx l M X D cA ad0 A p s m args meth cd →
    ∀ (ad : Nat → Nat) (H : Heap) (locs : List Loc) (ls : Array Slot) (cells slots : Nat), zag 0 ad0 ad → zGd md M D cA ad A s c H locs ls →
    (∀ (H' : Heap) (locs' : List Loc) (ls' : Array Slot), zGd md M D cA ad A s c' H' locs' ls' → W p l e R s m args below meth cd H' locs' cells slots Q (F0 m c'.1 ls' (c'.2.2.1.map (zcv ad)))) →
    W p l e R s m args below meth cd H locs cells slots Q (F0 m c.1 ls (c.2.2.1.map (zcv ad)))
theorem zV_st {l : Launch} {g : Bool × Nat} {md : Nat} {M : zM} {X : zX} {bc bs : Nat} {c c' : zC} {P : zF → Prop} (h : zStp l md M X c c') (ht : zle g.1 c.2.2.2 c'.2.2.2) (k : zVV l g md M X bc bs c' P) : zVV l g md M X bc bs c P := by
  intro p e R s m args below meth cd D cA ad0 A Q hC hf hl ad H locs ls cells slots ha hG hc hs hF
  exact h p e R s m args below meth cd D cA ad0 A Q hC ad H locs ls cells slots ha hG fun H' locs' ls' hG' =>
    k p e R s m args below meth cd D cA ad0 A Q hC hf hl ad H' locs' ls' cells slots ha hG' hc hs (fun f hf => (hF f hf).mono zag.rfl' ht)
theorem zStp.trans {l : Launch} {md : Nat} {M : zM} {X : zX} {a b c : zC} (h1 : zStp l md M X a b) (h2 : zStp l md M X b c) : zStp l md M X a c :=
  fun p e R s m args below meth cd D cA ad0 A Q hC ad H locs ls cells slots ha hG hk => h1 p e R s m args below meth cd D cA ad0 A Q hC ad H locs ls cells slots ha hG fun H' locs' ls' hG' => h2 p e R s m args below meth cd D cA ad0 A Q hC ad H' locs' ls' cells slots ha hG' hk
theorem zStp.refl {l : Launch} {md : Nat} {M : zM} {X : zX} {a : zC} : zStp l md M X a a := fun p e R s m args below meth cd D cA ad0 A Q hC ad H locs ls cells slots ha hG hk => hk H locs ls hG
theorem zSok.tl {h : zH} {v : zV} {st : List zV} (hs : zSok h (v :: st)) : zSok h st := fun w hw => hs w (List.mem_cons_of_mem _ hw)
theorem zSok.cons {h : zH} {v : zV} {st : List zV} (hv : zvok h v) (hs : zSok h st) : zSok h (v :: st) := fun w hw => (List.mem_cons.mp hw).elim (fun e => e ▸ hv) (hs w)
theorem zLok.s1 {h : zH} {L : List (Option zV)} {i : Nat} {v : zV} (hL : zLok h L) (hv : zvok h v) : zLok h (zs1 L i v) := fun w hw => (zs1_ok L i hw).elim (fun e => e ▸ hv) (hL w)
theorem zLok.s2 {h : zH} {L : List (Option zV)} {i : Nat} {v : zV} (hL : zLok h L) (hv : zvok h v) : zLok h (zs2 L i v) := fun w hw => (zs2_ok L i hw).elim (fun e => e ▸ hv) (hL w)
set_option maxHeartbeats 2000000 in
theorem zx1_ok {h : zH} {i : Instr} {pc pc' : Nat} {L L' : List (Option zV)} {st st' : List zV} (h0 : zx1 i pc L st = some (pc', L', st')) (hL : zLok h L) (hs : zSok h st) : zLok h L' ∧ zSok h st' ∧ L'.length = L.length := by
  have inj : ∀ {a a' : Nat} {b b' : List (Option zV)} {c c' : List zV}, some (a, b, c) = some (a', b', c') → a = a' ∧ b = b' ∧ c = c' := by
    intro a a' b b' c c' h
    cases h
    exact ⟨rfl, rfl, rfl⟩
  have tI : ∀ x : Int32, zvok h (zi x) := fun _ => trivial
  have tL : ∀ x : Int64, zvok h (zl x) := fun _ => trivial
  cases i
  case dup =>
    have h0 : zpA st (fun x st => some (pc + 1, L, x :: x :: st)) = some (pc', L', st') := h0
    obtain ⟨x, r, rfl, hc, h1⟩ := zpA_s h0
    obtain ⟨rfl, rfl, rfl⟩ := inj h1
    exact ⟨hL, hs.cons (hs _ List.mem_cons_self), rfl⟩
  case pop =>
    have h0 : zpA st (fun _ st => some (pc + 1, L, st)) = some (pc', L', st') := h0
    obtain ⟨x, r, rfl, hc, h1⟩ := zpA_s h0
    obtain ⟨rfl, rfl, rfl⟩ := inj h1
    exact ⟨hL, hs.tl, rfl⟩
  case dup2 =>
    have h0 : zpA st (fun x st => zpA st fun y st => some (pc + 1, L, x :: y :: x :: y :: st)) = some (pc', L', st') := h0
    obtain ⟨x, r1, rfl, hc, h1⟩ := zpA_s h0
    obtain ⟨y, r, rfl, hc2, h2⟩ := zpA_s h1
    obtain ⟨rfl, rfl, rfl⟩ := inj h2
    exact ⟨hL, (hs.cons (hs _ (List.mem_cons_of_mem _ List.mem_cons_self))).cons (hs _ List.mem_cons_self), rfl⟩
  case goto off =>
    dsimp only [zx1] at h0
    split at h0
    · obtain ⟨rfl, rfl, rfl⟩ := inj h0
      exact ⟨hL, hs, rfl⟩
    · cases h0
  case iconst n => obtain ⟨rfl, rfl, rfl⟩ := inj h0; exact ⟨hL, hs.cons (tI _), rfl⟩
  case bipush n => obtain ⟨rfl, rfl, rfl⟩ := inj h0; exact ⟨hL, hs.cons (tI _), rfl⟩
  case sipush n => obtain ⟨rfl, rfl, rfl⟩ := inj h0; exact ⟨hL, hs.cons (tI _), rfl⟩
  case lconst n => obtain ⟨rfl, rfl, rfl⟩ := inj h0; exact ⟨hL, hs.cons (tL _), rfl⟩
  case aload_n k => obtain ⟨x, hk, h1⟩ := zgR_s h0; obtain ⟨rfl, rfl, rfl⟩ := inj h1; exact ⟨hL, hs.cons (hL _ (List.mem_of_getElem? hk)), rfl⟩
  case aload k => obtain ⟨x, hk, h1⟩ := zgR_s h0; obtain ⟨rfl, rfl, rfl⟩ := inj h1; exact ⟨hL, hs.cons (hL _ (List.mem_of_getElem? hk)), rfl⟩
  case iload_n k => obtain ⟨x, hk, h1⟩ := zgI_s h0; obtain ⟨rfl, rfl, rfl⟩ := inj h1; exact ⟨hL, hs.cons (tI _), rfl⟩
  case iload k => obtain ⟨x, hk, h1⟩ := zgI_s h0; obtain ⟨rfl, rfl, rfl⟩ := inj h1; exact ⟨hL, hs.cons (tI _), rfl⟩
  case lload_n k => obtain ⟨x, hk, h1⟩ := zgL_s h0; obtain ⟨rfl, rfl, rfl⟩ := inj h1; exact ⟨hL, hs.cons (tL _), rfl⟩
  case lload k => obtain ⟨x, hk, h1⟩ := zgL_s h0; obtain ⟨rfl, rfl, rfl⟩ := inj h1; exact ⟨hL, hs.cons (tL _), rfl⟩
  case iinc k n => obtain ⟨x, hk, h1⟩ := zgI_s h0; obtain ⟨rfl, rfl, rfl⟩ := inj h1; exact ⟨hL.s1 (tI _), hs, zs1_len _ _⟩
  case astore_n k =>
    obtain ⟨x, r, rfl, h1⟩ := zpR_s h0
    split at h1
    · obtain ⟨rfl, rfl, rfl⟩ := inj h1; exact ⟨hL.s1 (hs _ List.mem_cons_self), hs.tl, zs1_len _ _⟩
    · cases h1
  case astore k =>
    obtain ⟨x, r, rfl, h1⟩ := zpR_s h0
    split at h1
    · obtain ⟨rfl, rfl, rfl⟩ := inj h1; exact ⟨hL.s1 (hs _ List.mem_cons_self), hs.tl, zs1_len _ _⟩
    · cases h1
  case istore_n k =>
    obtain ⟨x, r, rfl, h1⟩ := zpI_s h0
    split at h1
    · obtain ⟨rfl, rfl, rfl⟩ := inj h1; exact ⟨hL.s1 (tI _), hs.tl, zs1_len _ _⟩
    · cases h1
  case istore k =>
    obtain ⟨x, r, rfl, h1⟩ := zpI_s h0
    split at h1
    · obtain ⟨rfl, rfl, rfl⟩ := inj h1; exact ⟨hL.s1 (tI _), hs.tl, zs1_len _ _⟩
    · cases h1
  case lstore_n k =>
    obtain ⟨x, r, rfl, h1⟩ := zpL_s h0
    split at h1
    · obtain ⟨rfl, rfl, rfl⟩ := inj h1; exact ⟨hL.s2 (tL _), hs.tl, zs2_len _ _⟩
    · cases h1
  case lstore k =>
    obtain ⟨x, r, rfl, h1⟩ := zpL_s h0
    split at h1
    · obtain ⟨rfl, rfl, rfl⟩ := inj h1; exact ⟨hL.s2 (tL _), hs.tl, zs2_len _ _⟩
    · cases h1
  case iadd => obtain ⟨y, r1, rfl, h1⟩ := zpI_s h0; obtain ⟨x, r, rfl, h2⟩ := zpI_s h1; obtain ⟨rfl, rfl, rfl⟩ := inj h2; exact ⟨hL, hs.tl.tl.cons (tI _), rfl⟩
  case isub => obtain ⟨y, r1, rfl, h1⟩ := zpI_s h0; obtain ⟨x, r, rfl, h2⟩ := zpI_s h1; obtain ⟨rfl, rfl, rfl⟩ := inj h2; exact ⟨hL, hs.tl.tl.cons (tI _), rfl⟩
  case imul => obtain ⟨y, r1, rfl, h1⟩ := zpI_s h0; obtain ⟨x, r, rfl, h2⟩ := zpI_s h1; obtain ⟨rfl, rfl, rfl⟩ := inj h2; exact ⟨hL, hs.tl.tl.cons (tI _), rfl⟩
  case iand => obtain ⟨y, r1, rfl, h1⟩ := zpI_s h0; obtain ⟨x, r, rfl, h2⟩ := zpI_s h1; obtain ⟨rfl, rfl, rfl⟩ := inj h2; exact ⟨hL, hs.tl.tl.cons (tI _), rfl⟩
  case ior => obtain ⟨y, r1, rfl, h1⟩ := zpI_s h0; obtain ⟨x, r, rfl, h2⟩ := zpI_s h1; obtain ⟨rfl, rfl, rfl⟩ := inj h2; exact ⟨hL, hs.tl.tl.cons (tI _), rfl⟩
  case ixor => obtain ⟨y, r1, rfl, h1⟩ := zpI_s h0; obtain ⟨x, r, rfl, h2⟩ := zpI_s h1; obtain ⟨rfl, rfl, rfl⟩ := inj h2; exact ⟨hL, hs.tl.tl.cons (tI _), rfl⟩
  case ishl => obtain ⟨y, r1, rfl, h1⟩ := zpI_s h0; obtain ⟨x, r, rfl, h2⟩ := zpI_s h1; obtain ⟨rfl, rfl, rfl⟩ := inj h2; exact ⟨hL, hs.tl.tl.cons (tI _), rfl⟩
  case ishr => obtain ⟨y, r1, rfl, h1⟩ := zpI_s h0; obtain ⟨x, r, rfl, h2⟩ := zpI_s h1; obtain ⟨rfl, rfl, rfl⟩ := inj h2; exact ⟨hL, hs.tl.tl.cons (tI _), rfl⟩
  case iushr => obtain ⟨y, r1, rfl, h1⟩ := zpI_s h0; obtain ⟨x, r, rfl, h2⟩ := zpI_s h1; obtain ⟨rfl, rfl, rfl⟩ := inj h2; exact ⟨hL, hs.tl.tl.cons (tI _), rfl⟩
  case ladd => obtain ⟨y, r1, rfl, h1⟩ := zpL_s h0; obtain ⟨x, r, rfl, h2⟩ := zpL_s h1; obtain ⟨rfl, rfl, rfl⟩ := inj h2; exact ⟨hL, hs.tl.tl.cons (tL _), rfl⟩
  case lsub => obtain ⟨y, r1, rfl, h1⟩ := zpL_s h0; obtain ⟨x, r, rfl, h2⟩ := zpL_s h1; obtain ⟨rfl, rfl, rfl⟩ := inj h2; exact ⟨hL, hs.tl.tl.cons (tL _), rfl⟩
  case land => obtain ⟨y, r1, rfl, h1⟩ := zpL_s h0; obtain ⟨x, r, rfl, h2⟩ := zpL_s h1; obtain ⟨rfl, rfl, rfl⟩ := inj h2; exact ⟨hL, hs.tl.tl.cons (tL _), rfl⟩
  case lor => obtain ⟨y, r1, rfl, h1⟩ := zpL_s h0; obtain ⟨x, r, rfl, h2⟩ := zpL_s h1; obtain ⟨rfl, rfl, rfl⟩ := inj h2; exact ⟨hL, hs.tl.tl.cons (tL _), rfl⟩
  case lxor => obtain ⟨y, r1, rfl, h1⟩ := zpL_s h0; obtain ⟨x, r, rfl, h2⟩ := zpL_s h1; obtain ⟨rfl, rfl, rfl⟩ := inj h2; exact ⟨hL, hs.tl.tl.cons (tL _), rfl⟩
  case lcmp => obtain ⟨y, r1, rfl, h1⟩ := zpL_s h0; obtain ⟨x, r, rfl, h2⟩ := zpL_s h1; obtain ⟨rfl, rfl, rfl⟩ := inj h2; exact ⟨hL, hs.tl.tl.cons (tI _), rfl⟩
  case lshl => obtain ⟨y, r1, rfl, h1⟩ := zpI_s h0; obtain ⟨x, r, rfl, h2⟩ := zpL_s h1; obtain ⟨rfl, rfl, rfl⟩ := inj h2; exact ⟨hL, hs.tl.tl.cons (tL _), rfl⟩
  case lushr => obtain ⟨y, r1, rfl, h1⟩ := zpI_s h0; obtain ⟨x, r, rfl, h2⟩ := zpL_s h1; obtain ⟨rfl, rfl, rfl⟩ := inj h2; exact ⟨hL, hs.tl.tl.cons (tL _), rfl⟩
  case i2l => obtain ⟨x, r, rfl, h1⟩ := zpI_s h0; obtain ⟨rfl, rfl, rfl⟩ := inj h1; exact ⟨hL, hs.tl.cons (tL _), rfl⟩
  case l2i => obtain ⟨x, r, rfl, h1⟩ := zpL_s h0; obtain ⟨rfl, rfl, rfl⟩ := inj h1; exact ⟨hL, hs.tl.cons (tI _), rfl⟩
  case i2b => obtain ⟨x, r, rfl, h1⟩ := zpI_s h0; obtain ⟨rfl, rfl, rfl⟩ := inj h1; exact ⟨hL, hs.tl.cons (tI _), rfl⟩
  case i2c => obtain ⟨x, r, rfl, h1⟩ := zpI_s h0; obtain ⟨rfl, rfl, rfl⟩ := inj h1; exact ⟨hL, hs.tl.cons (tI _), rfl⟩
  all_goals cases h0
theorem zS_x1 {l : Launch} {md : Nat} {M : zM} {X : zX} {pc pc' : Nat} {L L' : List (Option zV)} {st st' : List zV} {h : zH} {i : Instr} (hd : decode M.2.1 pc = .ok (i, zil i)) (h0 : zx1 i pc L st = some (pc', L', st')) : zStp l md M X (pc, L, st, h) (pc', L', st', h) := by
  intro p e R s m args below meth cd D cA ad0 A Q hC ad H locs ls cells slots ha hG hk
  obtain ⟨g1, g2, g3, g4, g5, g6⟩ := hG
  obtain ⟨hx, hb, -⟩ := hC
  obtain ⟨o1, o2, o3⟩ := zx1_ok h0 g5 g6
  exact zx1_sound hx hb g3 g4 hd h0 fun ls' h2 => hk H locs ls' ⟨g1, g2, h2, o3.trans g4, o1, o2⟩
/-! fields -/
theorem zcl_ok : ∀ c, c < 12 → classes[c]? = some (zcn c, zcF c, zN c) ∧ zobj c = true := by
  intro c hc
  match c, hc with
  | 0, _ => exact ⟨rfl, rfl⟩
  | 1, _ => exact ⟨rfl, rfl⟩
  | 2, _ => exact ⟨rfl, rfl⟩
  | 3, _ => exact ⟨rfl, rfl⟩
  | 4, _ => exact ⟨rfl, rfl⟩
  | 5, _ => exact ⟨rfl, rfl⟩
  | 6, _ => exact ⟨rfl, rfl⟩
  | 7, _ => exact ⟨rfl, rfl⟩
  | 8, _ => exact ⟨rfl, rfl⟩
  | 9, _ => exact ⟨rfl, rfl⟩
  | 10, _ => exact ⟨rfl, rfl⟩
  | 11, _ => exact ⟨rfl, rfl⟩
  | n + 12, h => omega
theorem zcw_ok : ∀ c, c < 12 → ∀ w ∈ u_ws (zcn c) (zcF c) (zN c), w ∈ zW := by
  intro c hc
  match c, hc with
  | 0, _ => exact zw_Main
  | 1, _ => exact zw_Catalog
  | 2, _ => exact zw_Diagnosis
  | 3, _ => exact zw_Net
  | 4, _ => exact zw_Packs
  | 5, _ => exact zw_Parser
  | 6, _ => exact zw_Program
  | 7, _ => exact zw_Session
  | 8, _ => exact zw_State
  | 9, _ => exact zw_Tape
  | 10, _ => exact zw_Waves
  | 11, _ => exact zw_Model
  | n + 12, h => omega
/-- each field's type and name; the codes of the types fit -/
def zfty (c k : Nat) : Bool := (parseFieldDescriptor (zcF c k).2.2.1 == some (zcT c k)) && (match zty c k with
  | 0 => zcT c k == .int
  | 1 => zcT c k == .long
  | 3 => zcT c k == .boolean
  | 2 => (match zcT c k with
    | .object _ => true
    | .array _ => true
    | _ => false)
  | _ => false)
theorem zfty_ok : ∀ c, c < 12 → ∀ k, k < zN c → zfty c k = true := by decide +kernel
theorem zfnm_ok : ∀ c, c < 12 → ∀ a, a < zN c → ∀ b, b < zN c → a ≠ b → (zcF c a).2.1 ≠ (zcF c b).2.1 := by decide +kernel
theorem zfcl_ok : ∀ c, c < 12 → ∀ a, a < zN c → (zcF c a).1 = zcn c := by decide +kernel
def zgv (md : Nat) (h : zH) (c o k : Nat) : zV := match zty c k with
  | 1 => zl (h.2.1 o k)
  | 2 => zr (zref md h c o k)
  | _ => zi (h.1 o k)
theorem zgv_cv {md : Nat} {ad : Nat → Nat} {h : zH} {c o k : Nat} : zcv ad (zgv md h c o k) = zfv md ad h c o k := by
  unfold zgv zfv
  generalize zty c k = t
  match t with
  | 0 => rfl
  | 1 => rfl
  | 2 => rfl
  | n + 3 => rfl
theorem zdyn {h : zH} {q : Nat × Nat} (hq : zok h (some q)) (hc : q.1 < 200) : q.2 < ztop h ∧ zK h q.2 = q.1 := by
  rcases hq q rfl with h1 | h1
  · exact h1
  · have := (zsta_SO h1).2
    omega
theorem zgv_ok {md : Nat} {h : zH} {c o k : Nat} (hR : zRok md h) (ho : o < ztop h) (hc : zK h o = c) (hk : k < zN c) : zvok h (zgv md h c o k) := by
  unfold zgv
  split
  · trivial
  · rename_i h2
    subst hc
    exact hR o ho k hk h2
  · trivial
theorem zS_get {l : Launch} {md : Nat} {M : zM} {X : zX} {pc idx c o k : Nat} {L : List (Option zV)} {st : List zV} {h : zH} (hd : decode M.2.1 pc = .ok (.getfield idx, 3)) (hc : c < 12) (hk : k < zN c)
    (hw : Cond.fieldLink M.1.cls idx (zcn c) (zcF c k).2.1 (zcF c k).2.2.1 ∈ zW) : zStp l md M X (pc, L, zr (some (c, o)) :: st, h) (pc + 3, L, zgv md h c o k :: st, h) := by
  intro p e R s m args below meth cd D cA ad0 A Q hC ad H locs ls cells slots ha hG hkk
  obtain ⟨⟨hP, hD, hR, hT⟩, g2, g3, g4, g5, g6⟩ := hG
  obtain ⟨hx, hb, hr, hml, hown, hts, hlk, htb, hnm, hK, -⟩ := hC
  obtain ⟨ho, hKo⟩ := zdyn (h := h) (q := (c, o)) (g6 _ List.mem_cons_self) (by show c < 200; omega)
  have he := zws_get (md := md) (cA := cA) (ad := ad) ho
  rw [hKo, show zent md cA ad h c o = .inr (c, (List.range (zN c)).map (fun k => zfv md ad h c o k)) by unfold zent; rw [(zcl_ok c hc).2]] at he
  refine va_get (D := D) (ci := c) (v := zfv md ad h c o k) (C := zcn c) (T := zcF c) (N := zN c) hx hb hts (zcw_ok c hc) hown hK hP o he (zcl_ok c hc).1 k hk (hts _ hw) (fun x hx => by rw [zfcl_ok c hc k hk] at hx; exact hx) ?_ hd ?_
  · simp [List.getElem?_map, List.getElem?_range hk]
  · rw [← zgv_cv]
    exact hkk H locs ls ⟨⟨hP, hD, hR, hT⟩, g2, g3, g4, g5, g6.tl.cons (zgv_ok hR ho hKo hk)⟩
/-- the heap behind a putfield -/
def zput (md : Nat) (h : zH) (c o k : Nat) (v : zV) : Option zH := match zty c k, v with
  | 0, .inl x => some (zsI h o k x)
  | 3, .inl x => if x = 0 ∨ x = 1 then some (zsI h o k x) else none
  | 1, .inr (.inl x) => some (zsL h o k x)
  | 2, .inr (.inr r) => if (zstm md c o k).isSome = true then none else some (zsR h o k r)
  | _, _ => none
theorem zput_s {md : Nat} {h h' : zH} {c o k : Nat} {v : zV} (h0 : zput md h c o k v = some h') :
    (∃ x, (zty c k = 0 ∨ (zty c k = 3 ∧ (x = 0 ∨ x = 1))) ∧ v = zi x ∧ h' = zsI h o k x) ∨ (∃ x, zty c k = 1 ∧ v = zl x ∧ h' = zsL h o k x) ∨ (∃ r, zty c k = 2 ∧ v = zr r ∧ h' = zsR h o k r ∧ ¬ (zstm md c o k).isSome = true) := by
  unfold zput at h0
  split at h0
  · rename_i x h1
    cases h0
    exact Or.inl ⟨x, Or.inl h1, rfl, rfl⟩
  · rename_i x h1
    split at h0
    · rename_i h2
      cases h0
      exact Or.inl ⟨x, Or.inr ⟨h1, h2⟩, rfl, rfl⟩
    · cases h0
  · rename_i x h1
    cases h0
    exact Or.inr (Or.inl ⟨x, h1, rfl, rfl⟩)
  · rename_i r h1
    split at h0
    · cases h0
    · rename_i h2
      cases h0
      exact Or.inr (Or.inr ⟨r, h1, rfl, rfl, h2⟩)
  · cases h0
theorem zput_le {g : Bool} {md : Nat} {h h' : zH} {c o k : Nat} {v : zV} (h0 : zput md h c o k v = some h') : zle g h h' := by
  rcases zput_s h0 with ⟨x, -, -, rfl⟩ | ⟨x, -, -, rfl⟩ | ⟨r, -, -, rfl, -⟩ <;> exact zle.same rfl
theorem zput_top {md : Nat} {h h' : zH} {c o k : Nat} {v : zV} (h0 : zput md h c o k v = some h') : ztop h' = ztop h ∧ zK h' = zK h := by
  rcases zput_s h0 with ⟨x, -, -, rfl⟩ | ⟨x, -, -, rfl⟩ | ⟨r, -, -, rfl, -⟩ <;> exact ⟨rfl, rfl⟩
theorem zok_top {h h' : zH} {r : Option (Nat × Nat)} (ht : ztop h' = ztop h) (hk : zK h' = zK h) (hr : zok h r) : zok h' r := fun q hq => by rw [ht, hk]; exact hr q hq
theorem zvok_top {h h' : zH} {v : zV} (ht : ztop h' = ztop h) (hk : zK h' = zK h) (hr : zvok h v) : zvok h' v := by
  rcases v with x | x | r
  · trivial
  · trivial
  · exact zok_top ht hk hr
theorem zSok_top {h h' : zH} {st : List zV} (ht : ztop h' = ztop h) (hk : zK h' = zK h) (hr : zSok h st) : zSok h' st := fun v hv => zvok_top ht hk (hr v hv)
theorem zLok_top {h h' : zH} {L : List (Option zV)} (ht : ztop h' = ztop h) (hk : zK h' = zK h) (hr : zLok h L) : zLok h' L := fun v hv => zvok_top ht hk (hr v hv)
/-- numbers alone changed: references are as they were -/
theorem zRok_num {md : Nat} {h h' : zH} (ht : ztop h' = ztop h) (hk : zK h' = zK h) (hr : h'.2.2.1 = h.2.2.1) (h0 : zRok md h) : zRok md h' := by
  intro o ho k hkk h2
  rw [ht] at ho
  rw [hk] at hkk h2 ⊢
  have e : zref md h' (zK h o) o k = zref md h (zK h o) o k := by
    unfold zref
    rw [hr]
  rw [e]
  exact zok_top ht hk (h0 o ho k hkk h2)
theorem zRok_ref {md : Nat} {h : zH} {o k : Nat} {r : Option (Nat × Nat)} (h0 : zRok md h) (hr : zok h r) : zRok md (zsR h o k r) := by
  intro a ha j hj h2
  have h1 := h0 a ha j hj h2
  have key : zok h (zref md (zsR h o k r) (zK h a) a j) := by
    unfold zref at h1 ⊢
    cases hz : zstm md (zK h a) a j with
    | some q =>
      simp only [hz] at h1 ⊢
      exact h1
    | none =>
      simp only [hz] at h1 ⊢
      show zok h (zu h.2.2.1 o k r a j)
      by_cases e : a = o ∧ j = k
      · rw [e.1, e.2, zu_eq]
        exact hr
      · have : zu h.2.2.1 o k r a j = h.2.2.1 a j := by
          unfold zu
          split
          · split
            · exact absurd ⟨by assumption, by assumption⟩ e
            · rfl
          · rfl
        rw [this]
        exact h1
  exact zok_top (h := h) (h' := zsR h o k r) rfl rfl key
theorem zput_R {md : Nat} {h h' : zH} {c o k : Nat} {v : zV} (h0 : zput md h c o k v = some h') (hR : zRok md h) (hv : zvok h v) : zRok md h' := by
  rcases zput_s h0 with ⟨x, -, rfl, rfl⟩ | ⟨x, -, rfl, rfl⟩ | ⟨r, -, rfl, rfl, -⟩
  · exact zRok_num rfl rfl rfl hR
  · exact zRok_num rfl rfl rfl hR
  · exact zRok_ref hR hv
theorem zput_ne {md : Nat} {h h' : zH} {c o k : Nat} {v : zV} (h0 : zput md h c o k v = some h') : ∀ a, a ≠ o → h'.1 a = h.1 a ∧ h'.2.1 a = h.2.1 a ∧ h'.2.2.1 a = h.2.2.1 a := by
  intro a ha
  rcases zput_s h0 with ⟨x, -, rfl, rfl⟩ | ⟨x, -, rfl, rfl⟩ | ⟨r, -, rfl, rfl, -⟩
  · exact ⟨zu_ne _ _ ha, rfl, rfl⟩
  · exact ⟨rfl, zu_ne _ _ ha, rfl⟩
  · exact ⟨rfl, rfl, zu_ne _ _ ha⟩
theorem zput_at {md : Nat} {ad : Nat → Nat} {h h' : zH} {c o k : Nat} {v : zV} (h0 : zput md h c o k v = some h') (hkN : k < zN c) : ((List.range (zN c)).map (fun k => zfv md ad h c o k)).set k (zcv ad v) = (List.range (zN c)).map (fun k => zfv md ad h' c o k) := by
  apply List.ext_getElem?
  intro j
  by_cases hj : j = k
  · subst hj
    rw [List.getElem?_set_self (by simpa using hkN)]
    simp only [List.getElem?_map, List.getElem?_range hkN, Option.map_some]
    rcases zput_s h0 with ⟨x, ht, rfl, rfl⟩ | ⟨x, ht, rfl, rfl⟩ | ⟨r, ht, rfl, rfl, hn⟩
    · have : zfv md ad (zsI h o j x) c o j = .int x := by
        unfold zfv
        rcases ht with ht | ⟨ht, -⟩ <;> rw [ht] <;> simp [zsI, zu_eq]
      rw [this]
      rfl
    · have : zfv md ad (zsL h o j x) c o j = .long x := by
        unfold zfv
        rw [ht]
        simp [zsL, zu_eq]
      rw [this]
      rfl
    · have : zfv md ad (zsR h o j r) c o j = va_rf (zadr ad r) := by
        unfold zfv
        rw [ht]
        show va_rf (zadr ad (zref md (zsR h o j r) c o j)) = _
        congr 2
        unfold zref
        cases hz : zstm md c o j with
        | some q => simp [hz] at hn
        | none => exact zu_eq _ _ _ _
      rw [this]
      rfl
  · rw [List.getElem?_set_ne (Ne.symm hj)]
    by_cases hl : j < zN c
    · simp only [List.getElem?_map, List.getElem?_range hl, Option.map_some]
      congr 1
      rcases zput_s h0 with ⟨x, ht, rfl, rfl⟩ | ⟨x, ht, rfl, rfl⟩ | ⟨r, ht, rfl, rfl, hn⟩
      · unfold zfv zref
        simp only [zsI, zu_nek _ _ hj]
      · unfold zfv zref
        simp only [zsL, zu_nek _ _ hj]
      · unfold zfv zref
        simp only [zsR, zu_nek _ _ hj]
    · rw [List.getElem?_eq_none (by simpa using hl), List.getElem?_eq_none (by simpa using hl)]
theorem zput_fit {md : Nat} {ad : Nat → Nat} {h h' : zH} {c o k : Nat} {v : zV} (h0 : zput md h c o k v = some h') (hc : c < 12) (hk : k < zN c) : narrow (zcT c k) (zcv ad v) = zcv ad v ∧ fits (zcT c k) (zcv ad v) = true ∧ parseFieldDescriptor (zcF c k).2.2.1 = some (zcT c k) := by
  have hf := zfty_ok c hc k hk
  unfold zfty at hf
  rw [Bool.and_eq_true] at hf
  obtain ⟨hf1, hf⟩ := hf
  have hf1 := eq_of_beq hf1
  rcases zput_s h0 with ⟨x, ht | ⟨ht, hx⟩, rfl, -⟩ | ⟨x, ht, rfl, -⟩ | ⟨r, ht, rfl, -, -⟩
  · rw [ht] at hf
    have hf := eq_of_beq hf
    rw [hf]
    exact ⟨rfl, rfl, hf ▸ hf1⟩
  · rw [ht] at hf
    have hf := eq_of_beq hf
    rw [hf]
    refine ⟨?_, ?_, hf ▸ hf1⟩
    · rcases hx with rfl | rfl <;> rfl
    · rcases hx with rfl | rfl <;> rfl
  · rw [ht] at hf
    have hf := eq_of_beq hf
    rw [hf]
    exact ⟨rfl, rfl, hf ▸ hf1⟩
  · rw [ht] at hf
    refine ⟨?_, ?_, hf1⟩
    · cases hq : zcT c k <;> rw [hq] at hf <;> first | (cases hf; done) | rfl
    · cases hq : zcT c k <;> rw [hq] at hf <;> first | (cases hf; done) | (cases r <;> rfl)
theorem zS_put {l : Launch} {md : Nat} {M : zM} {X : zX} {pc idx c o k : Nat} {L : List (Option zV)} {st : List zV} {v : zV} {h h' : zH} (hd : decode M.2.1 pc = .ok (.putfield idx, 3)) (hc : c < 12) (hk : k < zN c)
    (hw : Cond.fieldLink M.1.cls idx (zcn c) (zcF c k).2.1 (zcF c k).2.2.1 ∈ zW) (hf : (zcF c k).2.2.2 = false ∨ ((zcF c k).2.2.2 = true ∧ M.1.name = "<init>" ∧ zcn c = M.1.cls)) (h0 : zput md h c o k v = some h') : zStp l md M X (pc, L, v :: zr (some (c, o)) :: st, h) (pc + 3, L, st, h') := by
  intro p e R s m args below meth cd D cA ad0 A Q hC ad H locs ls cells slots ha hG hkk
  obtain ⟨⟨hP, hD, hR, hT⟩, g2, g3, g4, g5, g6⟩ := hG
  obtain ⟨hx, hb, hr, hml, hown, hts, hlk, htb, hnm, hK, hE, hA, -⟩ := hC
  obtain ⟨ho, hKo⟩ := zdyn (h := h) (q := (c, o)) (g6 _ (List.mem_cons_of_mem _ List.mem_cons_self)) (by show c < 200; omega)
  have he := zws_get (md := md) (cA := cA) (ad := ad) ho
  rw [hKo, show zent md cA ad h c o = .inr (c, (List.range (zN c)).map (fun k => zfv md ad h c o k)) by unfold zent; rw [(zcl_ok c hc).2]] at he
  obtain ⟨f1, f2, f3⟩ := zput_fit (ad := ad) h0 hc hk
  obtain ⟨t1, t2⟩ := zput_top h0
  have hty : ∀ k, k < zN c → parseFieldDescriptor (zcF c k).2.2.1 = some (zcT c k) := fun j hj => by
    have hf := zfty_ok c hc j hj
    unfold zfty at hf
    rw [Bool.and_eq_true] at hf
    exact eq_of_beq hf.1
  have hset : (zws md cA ad h).set o (ad o, .inr (c, ((List.range (zN c)).map (fun k => zfv md ad h c o k)).set k (zcv ad v))) = zws md cA ad h' := by
    refine zws_set t2 t1 ho ?_ (zput_ne h0)
    rw [zput_at h0 hk, hKo]
    unfold zent
    rw [(zcl_ok c hc).2]
  have hlen : k < ((List.range (zN c)).map (fun k => zfv md ad h c o k)).length := by simpa using hk
  have fin : ∀ (H1 : Heap) (locs1 : List Loc), va_P D classes ((zws md cA ad h).set o (ad o, .inr (c, ((List.range (zN c)).map (fun k => zfv md ad h c o k)).set k (zcv ad v)))) H1 → va_D A ((zws md cA ad h).set o (ad o, .inr (c, ((List.range (zN c)).map (fun k => zfv md ad h c o k)).set k (zcv ad v)))) → va_S A s.heap H1 locs1 → W p l e R s m args below meth cd H1 locs1 cells slots Q (F0 m (pc + 3) ls (st.map (zcv ad))) := by
    intro H1 locs1 q1 q2 q3
    rw [hset] at q1 q2
    exact hkk H1 locs1 ls ⟨⟨q1, q2, zput_R h0 hR (g6 _ List.mem_cons_self), by rw [t1]; exact hT⟩, q3, g3, g4, zLok_top t1 t2 g5, zSok_top t1 t2 g6.tl.tl⟩
  rcases hf with hf | ⟨hf, hin, hcl⟩
  · exact va_put (D := D) (ci := c) (v := zcv ad v) (ty := zcT c k) (C := zcn c) (T := zcF c) (N := zN c) hx hb hts (zcw_ok c hc) (zcT c) hty (zfnm_ok c hc) hown hK hP hD g2 o he (zcl_ok c hc).1 k hk (hts _ hw) (fun x hx => by rw [zfcl_ok c hc k hk] at hx; exact hx) hf f3 f1 f2 hlen hd fin
  · exact va_putF (D := D) (ci := c) (v := zcv ad v) (ty := zcT c k) (C := zcn c) (T := zcF c) (N := zN c) hx hb hts (zcw_ok c hc) (zcT c) hty (zfnm_ok c hc) hown hK hP hD g2 o he (zcl_ok c hc).1 k hk (hts _ hw) (fun x hx => by rw [zfcl_ok c hc k hk] at hx; exact hx) hf (hnm.trans hin) ((zfcl_ok c hc k hk).trans hcl) f3 f1 f2 hlen hd fin
