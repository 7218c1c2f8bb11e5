/-! ===== a shallow reading of a method, and the method ===== -/
def zKV (l : Launch) (g : Bool × Nat) (md : Nat) (M : zM) (X : zX) (bc bs : Nat) (P : zF → Prop) : zC ⊕ zF → Prop
  | .inl c => zVV l g md M X bc bs c P
  | .inr f => P f
/-- if e is some x, the steps from c on come to K x -/
def zGl (l : Launch) (M : zM) (X : zX) (bc bs : Nat) {α : Type} (e : Option α) (c : zC) (K : α → zC ⊕ zF) : Prop :=
  ∀ x, e = some x → ∀ P xc xs, zKV l (true, 2) 2 M X xc xs P (K x) → zVV l (true, 2) 2 M X (xc + bc) (xs + bs) c P
def zg {α : Type} (b : Bool) (e : Option α) : Option α := match b with
  | true => e
  | false => none
theorem zg_t {α : Type} {b : Bool} {e : Option α} {x : α} (h : zg b e = some x) : b = true ∧ e = some x := by
  cases b
  · cases h
  · exact ⟨rfl, h⟩
def zgr {α : Type} (r : Option (Nat × Nat)) (c : Nat) (k : Nat → Option α) : Option α := match r with
  | some q => match Nat.beq q.1 c with
    | true => k q.2
    | false => none
  | none => none
def zit {S X : Type} : Nat → (S → Option (S ⊕ X)) → S → Option X
  | 0, _, _ => none
  | n + 1, b, s => match b s with
    | none => none
    | some (.inl s') => zit n b s'
    | some (.inr x) => some x
/-- more turns than any loop makes -/
def zFU : Nat := 1000000
def zfo : List (Option zV) → List (Option zV) → Prop
  | [], [] => True
  | _ :: r, none :: r' => zfo r r'
  | a :: r, some v :: r' => a = some v ∧ zfo r r'
  | _, _ => False
theorem zfo_s : ∀ (L L' : List (Option zV)), zfo L L' → L'.length = L.length ∧ ∀ (i : Nat) (v : zV), L'[i]? = some (some v) → L[i]? = some (some v)
  | [], [], _ => ⟨rfl, fun i v h => h⟩
  | [], _ :: _, h => h.elim
  | _ :: _, [], h => h.elim
  | a :: r, none :: r', h => by
    obtain ⟨h1, h2⟩ := zfo_s r r' h
    refine ⟨by simp [h1], fun i v hi => ?_⟩
    cases i with
    | zero => simp at hi
    | succ i => simpa using h2 i v (by simpa using hi)
  | a :: r, some w :: r', h => by
    obtain ⟨h0, h⟩ := h
    obtain ⟨h1, h2⟩ := zfo_s r r' h
    refine ⟨by simp [h1], fun i v hi => ?_⟩
    cases i with
    | zero =>
      simp at hi
      subst hi
      simp [h0]
    | succ i => simpa using h2 i v (by simpa using hi)
/-- field links of a class: place in its pool, kind, slot -/
def zTok (own : String) (T : List (Nat × Nat × Nat)) : Prop := ∀ q ∈ T, Cond.fieldLink own q.1 (zcn q.2.1) (zcF q.2.1 q.2.2).2.1 (zcF q.2.1 q.2.2).2.2.1 ∈ zW ∧ q.2.1 < 12 ∧ q.2.2 < zN q.2.1
/-- where it goes on -/
def znx (i : Instr) (pc : Nat) : Nat := match i with
  | .goto off => ((pc : Int) + off).toNat
  | i => pc + zil i
/-- the instructions stand there, one behind the other -/
def zdg (cc : ByteArray) (T : List (Nat × Nat × Nat)) : Nat → List (Instr × Nat × Nat) → Bool
  | _, [] => true
  | pc, q :: r => decide (decode cc pc = .ok (q.1, zil q.1)) && ((match q.1 with
    | .getfield idx => decide ((idx, q.2) ∈ T)
    | .putfield idx => decide ((idx, q.2) ∈ T) && !(zcF q.2.1 q.2.2).2.2.2
    | _ => true) && zdg cc T (znx q.1 pc) r)
def zsx (q : Instr × Nat × Nat) (c : zC) : Option zC := match q.1 with
  | .getfield _ => match c.2.2.1 with
    | .inr (.inr (some r)) :: st => match Nat.beq r.1 q.2.1 with
      | true => some (c.1 + 3, c.2.1, zgv 2 c.2.2.2 q.2.1 r.2 q.2.2 :: st, c.2.2.2)
      | false => none
    | _ => none
  | .putfield _ => match c.2.2.1 with
    | v :: .inr (.inr (some r)) :: st => match Nat.beq r.1 q.2.1 with
      | true => match zput 2 c.2.2.2 q.2.1 r.2 q.2.2 v with
        | some h' => some (c.1 + 3, c.2.1, st, h')
        | none => none
      | false => none
    | _ => none
  | i => match zx1 i c.1 c.2.1 c.2.2.1 with
    | some z => some (z.1, z.2.1, z.2.2, c.2.2.2)
    | none => none
def zrun : List (Instr × Nat × Nat) → zC → Option zC
  | [], c => some c
  | q :: r, c => match zsx q c with
    | some c' => zrun r c'
    | none => none
theorem zx1_pc {i : Instr} {pc pc' : Nat} {L L' : List (Option zV)} {st st' : List zV} (h : zx1 i pc L st = some (pc', L', st')) : pc' = znx i pc := by
  have inj : ∀ {a a' : Nat} {b b' : List (Option zV)} {c c' : List zV}, some (a, b, c) = some (a', b', c') → a' = a := by
    intro a a' b b' c c' h
    cases h
    rfl
  cases i
  case dup =>
    have h : zpA st (fun x st => some (pc + 1, L, x :: x :: st)) = some (pc', L', st') := h
    obtain ⟨x, r, rfl, hc, h1⟩ := zpA_s h
    exact inj h1
  case pop =>
    have h : zpA st (fun _ st => some (pc + 1, L, st)) = some (pc', L', st') := h
    obtain ⟨x, r, rfl, hc, h1⟩ := zpA_s h
    exact inj h1
  case dup2 =>
    have h : zpA st (fun x st => zpA st fun y st => some (pc + 1, L, x :: y :: x :: y :: st)) = some (pc', L', st') := h
    obtain ⟨x, r1, rfl, hc, h1⟩ := zpA_s h
    obtain ⟨y, r, rfl, hc2, h2⟩ := zpA_s h1
    exact inj h2
  case goto off =>
    dsimp only [zx1] at h
    split at h
    · exact inj h
    · cases h
  case iconst n => exact inj h
  case bipush n => exact inj h
  case sipush n => exact inj h
  case lconst n => exact inj h
  case aload_n k => obtain ⟨x, hk, h1⟩ := zgR_s h; exact inj h1
  case aload k => obtain ⟨x, hk, h1⟩ := zgR_s h; exact inj h1
  case iload_n k => obtain ⟨x, hk, h1⟩ := zgI_s h; exact inj h1
  case iload k => obtain ⟨x, hk, h1⟩ := zgI_s h; exact inj h1
  case lload_n k => obtain ⟨x, hk, h1⟩ := zgL_s h; exact inj h1
  case lload k => obtain ⟨x, hk, h1⟩ := zgL_s h; exact inj h1
  case iinc k n => obtain ⟨x, hk, h1⟩ := zgI_s h; exact inj h1
  case astore_n k => obtain ⟨x, r, rfl, h1⟩ := zpR_s h; split at h1 <;> first | exact inj h1 | cases h1
  case astore k => obtain ⟨x, r, rfl, h1⟩ := zpR_s h; split at h1 <;> first | exact inj h1 | cases h1
  case istore_n k => obtain ⟨x, r, rfl, h1⟩ := zpI_s h; split at h1 <;> first | exact inj h1 | cases h1
  case istore k => obtain ⟨x, r, rfl, h1⟩ := zpI_s h; split at h1 <;> first | exact inj h1 | cases h1
  case lstore_n k => obtain ⟨x, r, rfl, h1⟩ := zpL_s h; split at h1 <;> first | exact inj h1 | cases h1
  case lstore k => obtain ⟨x, r, rfl, h1⟩ := zpL_s h; split at h1 <;> first | exact inj h1 | cases h1
  case iadd => obtain ⟨y, r1, rfl, h1⟩ := zpI_s h; obtain ⟨x, r, rfl, h2⟩ := zpI_s h1; exact inj h2
  case isub => obtain ⟨y, r1, rfl, h1⟩ := zpI_s h; obtain ⟨x, r, rfl, h2⟩ := zpI_s h1; exact inj h2
  case imul => obtain ⟨y, r1, rfl, h1⟩ := zpI_s h; obtain ⟨x, r, rfl, h2⟩ := zpI_s h1; exact inj h2
  case iand => obtain ⟨y, r1, rfl, h1⟩ := zpI_s h; obtain ⟨x, r, rfl, h2⟩ := zpI_s h1; exact inj h2
  case ior => obtain ⟨y, r1, rfl, h1⟩ := zpI_s h; obtain ⟨x, r, rfl, h2⟩ := zpI_s h1; exact inj h2
  case ixor => obtain ⟨y, r1, rfl, h1⟩ := zpI_s h; obtain ⟨x, r, rfl, h2⟩ := zpI_s h1; exact inj h2
  case ishl => obtain ⟨y, r1, rfl, h1⟩ := zpI_s h; obtain ⟨x, r, rfl, h2⟩ := zpI_s h1; exact inj h2
  case ishr => obtain ⟨y, r1, rfl, h1⟩ := zpI_s h; obtain ⟨x, r, rfl, h2⟩ := zpI_s h1; exact inj h2
  case iushr => obtain ⟨y, r1, rfl, h1⟩ := zpI_s h; obtain ⟨x, r, rfl, h2⟩ := zpI_s h1; exact inj h2
  case ladd => obtain ⟨y, r1, rfl, h1⟩ := zpL_s h; obtain ⟨x, r, rfl, h2⟩ := zpL_s h1; exact inj h2
  case lsub => obtain ⟨y, r1, rfl, h1⟩ := zpL_s h; obtain ⟨x, r, rfl, h2⟩ := zpL_s h1; exact inj h2
  case land => obtain ⟨y, r1, rfl, h1⟩ := zpL_s h; obtain ⟨x, r, rfl, h2⟩ := zpL_s h1; exact inj h2
  case lor => obtain ⟨y, r1, rfl, h1⟩ := zpL_s h; obtain ⟨x, r, rfl, h2⟩ := zpL_s h1; exact inj h2
  case lxor => obtain ⟨y, r1, rfl, h1⟩ := zpL_s h; obtain ⟨x, r, rfl, h2⟩ := zpL_s h1; exact inj h2
  case lcmp => obtain ⟨y, r1, rfl, h1⟩ := zpL_s h; obtain ⟨x, r, rfl, h2⟩ := zpL_s h1; exact inj h2
  case lshl => obtain ⟨y, r1, rfl, h1⟩ := zpI_s h; obtain ⟨x, r, rfl, h2⟩ := zpL_s h1; exact inj h2
  case lushr => obtain ⟨y, r1, rfl, h1⟩ := zpI_s h; obtain ⟨x, r, rfl, h2⟩ := zpL_s h1; exact inj h2
  case i2l => obtain ⟨x, r, rfl, h1⟩ := zpI_s h; exact inj h1
  case l2i => obtain ⟨x, r, rfl, h1⟩ := zpL_s h; exact inj h1
  case i2b => obtain ⟨x, r, rfl, h1⟩ := zpI_s h; exact inj h1
  case i2c => obtain ⟨x, r, rfl, h1⟩ := zpI_s h; exact inj h1
  all_goals cases h
theorem zrun_s {l : Launch} {M : zM} {X : zX} {T : List (Nat × Nat × Nat)} (hT : zTok M.1.cls T) : ∀ (is : List (Instr × Nat × Nat)) (c c' : zC), zdg M.2.1 T c.1 is = true → zrun is c = some c' → zStp l 2 M X c c' ∧ zle true c.2.2.2 c'.2.2.2
  | [], c, c', _, h => by
    cases h
    exact ⟨zStp.refl, zle.refl'⟩
  | q :: r, c, c', hd, h => by
    unfold zdg at hd
    rw [Bool.and_eq_true, Bool.and_eq_true] at hd
    obtain ⟨hd1, hd2, hd3⟩ := hd
    have hd1 := of_decide_eq_true hd1
    unfold zrun at h
    split at h
    · rename_i c1 hc1
      have key : zStp l 2 M X c c1 ∧ zle true c.2.2.2 c1.2.2.2 ∧ c1.1 = znx q.1 c.1 := by
        obtain ⟨i, ck, sk⟩ := q
        obtain ⟨pc, L, st, h0⟩ := c
        have other : (∀ idx, i ≠ .getfield idx) → (∀ idx, i ≠ .putfield idx) → (match zx1 i pc L st with
            | some z => some (z.1, z.2.1, z.2.2, h0)
            | none => none) = some c1 → zStp l 2 M X (pc, L, st, h0) c1 ∧ zle true h0 c1.2.2.2 ∧ c1.1 = znx i pc := by
          intro _ _ hc2
          split at hc2
          · rename_i z hz
            cases hc2
            exact ⟨zS_x1 hd1 hz, zle.refl', zx1_pc (pc' := z.1) (L' := z.2.1) (st' := z.2.2) hz⟩
          · cases hc2
        cases i
        case getfield idx =>
          rcases st with _ | ⟨v, st⟩
          · cases hc1
          · rcases v with x | x | r
            · cases hc1
            · cases hc1
            · rcases r with _ | ⟨rc, ro⟩
              · cases hc1
              · have hc1 : (match Nat.beq rc ck with
                  | true => some (pc + 3, L, zgv 2 h0 ck ro sk :: st, h0)
                  | false => none) = some c1 := hc1
                split at hc1
                · rename_i hb
                  cases hc1
                  have hb := Nat.eq_of_beq_eq_true hb
                  subst hb
                  have hm := of_decide_eq_true hd2
                  obtain ⟨w1, w2, w3⟩ := hT _ hm
                  exact ⟨zS_get hd1 w2 w3 w1, zle.refl', rfl⟩
                · cases hc1
        case putfield idx =>
          rcases st with _ | ⟨v, _ | ⟨w, st⟩⟩
          · cases hc1
          · cases hc1
          · rcases w with x | x | r
            · cases hc1
            · cases hc1
            · rcases r with _ | ⟨rc, ro⟩
              · cases hc1
              · have hc1 : (match Nat.beq rc ck with
                  | true => (match zput 2 h0 ck ro sk v with
                    | some h' => some (pc + 3, L, st, h')
                    | none => none)
                  | false => none) = some c1 := hc1
                split at hc1
                · rename_i hb
                  have hb := Nat.eq_of_beq_eq_true hb
                  subst hb
                  split at hc1
                  · rename_i h' hp
                    cases hc1
                    dsimp only at hd2
                    rw [Bool.and_eq_true] at hd2
                    have hm := of_decide_eq_true hd2.1
                    obtain ⟨w1, w2, w3⟩ := hT _ hm
                    exact ⟨zS_put hd1 w2 w3 w1 (Or.inl (by simpa using hd2.2)) hp, zput_le hp, rfl⟩
                  · cases hc1
                · cases hc1
        all_goals exact other (fun _ q => by cases q) (fun _ q => by cases q) hc1
      obtain ⟨k1, k2, k3⟩ := key
      obtain ⟨j1, j2⟩ := zrun_s hT r c1 c' (by rw [k3]; exact hd3) h
      exact ⟨k1.trans j1, k2.trans j2⟩
    · cases h
section Link
variable {l : Launch} {M M' : zM} {X : zX} {bc bs pc : Nat} {α β S Y : Type} {L : List (Option zV)} {st : List zV} {h : zH} {K : α → zC ⊕ zF}
theorem zG_st {e : Option α} {c c' : zC} (hs : zStp l 2 M X c c') (hl : zle true c.2.2.2 c'.2.2.2) (k : zGl l M X bc bs e c' K) : zGl l M X bc bs e c K := fun x hx P xc xs hP => zV_st hs hl (k x hx P xc xs hP)
theorem zG_run {e : Option α} {T : List (Nat × Nat × Nat)} (hT : zTok M.1.cls T) (is : List (Instr × Nat × Nat)) (c' : zC) (hd : zdg M.2.1 T pc is = true) (hr : zrun is (pc, L, st, h) = some c') (k : zGl l M X bc bs e c' K) : zGl l M X bc bs e (pc, L, st, h) K :=
  zG_st (zrun_s (l := l) (X := X) hT is (pc, L, st, h) c' hd hr).1 (zrun_s (l := l) (X := X) hT is (pc, L, st, h) c' hd hr).2 k
theorem zG_forget {e : Option α} {L' : List (Option zV)} (hf : zfo L L') (k : zGl l M X bc bs e (pc, L', st, h) K) : zGl l M X bc bs e (pc, L, st, h) K := fun x hx P xc xs hP => zVV.forget (zfo_s L L' hf).2 (zfo_s L L' hf).1 (k x hx P xc xs hP)
theorem zV_less {g : Bool × Nat} {md : Nat} {c : zC} {P : zF → Prop} {bc bs xc xs : Nat} (k : zVV l g md M X xc xs c P) : zVV l g md M X (xc + bc) (xs + bs) c P :=
  fun p e R s m args below meth cd D cA ad0 A Q hC hf hl ad H locs ls cells slots ha hG hc hs hF => k p e R s m args below meth cd D cA ad0 A Q hC hf hl ad H locs ls cells slots ha hG (by omega) (by omega) hF
/-- at a place where ways come together -/
theorem zG_end {x : α} {L' : List (Option zV)} (hK : K x = .inl (pc, L', st, h)) (hf : zfo L L') : zGl l M X bc bs (some x) (pc, L, st, h) K := by
  intro y hy P xc xs hP
  cases hy
  rw [hK] at hP
  exact zV_less (zVV.forget (zfo_s L L' hf).2 (zfo_s L L' hf).1 hP)
theorem zG_ret {x : α} {r : Option zV} (hK : K x = .inr (.inl r, h)) (hr : zrd M r pc) : zGl l M X bc bs (some x) (pc, L, r.toList, h) K := by
  intro y hy P xc xs hP
  cases hy
  rw [hK] at hP
  exact zV_ret (g := (true, 2)) hr hP
theorem zG_if {a b : Option α} {op : ClassFile.Cond} {off : Int} {tgt : Nat} {x : Int32} {p : Prop} [Decidable p] (hd : decode M.2.1 pc = .ok (.ifCond op off, 3)) (ht : (pc : Int) + off = (tgt : Int)) (hp : zcnd op x 0 ↔ p) (ka : p → zGl l M X bc bs a (tgt, L, st, h) K) (kb : ¬ p → zGl l M X bc bs b (pc + 3, L, st, h) K) : zGl l M X bc bs (if p then a else b) (pc, L, zi x :: st, h) K := by
  intro y hy P xc xs hP
  by_cases hq : p
  · rw [if_pos hq] at hy
    exact zV_if hd ht (fun _ => ka hq y hy P xc xs hP) (fun z => absurd (hp.mpr hq) z)
  · rw [if_neg hq] at hy
    exact zV_if hd ht (fun z => absurd (hp.mp z) hq) (fun _ => kb hq y hy P xc xs hP)
theorem zG_icmp {a b : Option α} {op : ClassFile.Cond} {off : Int} {tgt : Nat} {x y : Int32} {p : Prop} [Decidable p] (hd : decode M.2.1 pc = .ok (.if_icmp op off, 3)) (ht : (pc : Int) + off = (tgt : Int)) (hp : zcnd op x y ↔ p) (ka : p → zGl l M X bc bs a (tgt, L, st, h) K) (kb : ¬ p → zGl l M X bc bs b (pc + 3, L, st, h) K) : zGl l M X bc bs (if p then a else b) (pc, L, zi y :: zi x :: st, h) K := by
  intro z hz P xc xs hP
  by_cases hq : p
  · rw [if_pos hq] at hz
    exact zV_icmp hd ht (fun _ => ka hq z hz P xc xs hP) (fun z => absurd (hp.mpr hq) z)
  · rw [if_neg hq] at hz
    exact zV_icmp hd ht (fun z => absurd (hp.mp z) hq) (fun _ => kb hq z hz P xc xs hP)
/-- a choice told by a value, not yet by a step -/
theorem zG_case {a b : Option α} {c : zC} {p : Prop} [Decidable p] (ka : p → zGl l M X bc bs a c K) (kb : ¬ p → zGl l M X bc bs b c K) : zGl l M X bc bs (if p then a else b) c K := by
  intro z hz P xc xs hP
  by_cases hq : p
  · rw [if_pos hq] at hz
    exact ka hq z hz P xc xs hP
  · rw [if_neg hq] at hz
    exact kb hq z hz P xc xs hP
theorem zG_some {a b : α} {c : zC} {p : Prop} [Decidable p] (k : zGl l M X bc bs (if p then some a else some b) c K) : zGl l M X bc bs (some (if p then a else b)) c K := by
  intro z hz P xc xs hP
  refine k z ?_ P xc xs hP
  rw [← hz]
  split <;> rfl
theorem zG_bind {e : Option β} {f : β → Option α} {c : zC} (C : β → zC) (ka : zGl l M X 0 0 e c (fun y => .inl (C y))) (kb : ∀ y, zGl l M X 0 0 (f y) (C y) K) : zGl l M X bc bs (e.bind f) c K := by
  intro z hz P xc xs hP
  cases he : e with
  | none => rw [he] at hz; cases hz
  | some y =>
    rw [he] at hz
    exact zV_less (ka y he P xc xs (kb y z hz P xc xs hP))
theorem zG_let {v : β} {f : β → Option α} {c : zC} (C : β → zC) (ka : zGl l M X 0 0 (some v) c (fun y => .inl (C y))) (kb : ∀ y, zGl l M X 0 0 (f y) (C y) K) : zGl l M X bc bs (f v) c K :=
  zG_bind (e := some v) (f := f) C ka kb
theorem zG_iter {n : Nat} {b : S → Option (S ⊕ Y)} {s : S} {KY : Y → zC ⊕ zF} (C : S → zC) (k : ∀ s, zGl l M X 0 0 (b s) (C s) (Sum.elim (fun s' => .inl (C s')) KY)) : zGl l M X 0 0 (zit n b s) (C s) KY := by
  induction n generalizing s with
  | zero => intro x hx; cases hx
  | succ n ih =>
    intro x hx P xc xs hP
    unfold zit at hx
    split at hx
    · cases hx
    · rename_i s' hb
      exact k s _ hb P xc xs (ih x hx P xc xs hP)
    · rename_i y hb
      cases hx
      exact k s _ hb P xc xs hP
theorem zG_ald {e : Option α} {c o n : Nat} {i : Int32} {v : zV} (hc : zrow c = true) (hd : decode M.2.1 pc = .ok (zald (zel c), 1)) (hn : zN c = n) (hv : zgv 2 h c o i.toNatClampNeg = v) (k : zb i n = true → zGl l M X bc bs e (pc + 1, L, v :: st, h) K) : zGl l M X bc bs (zg (zb i n) e) (pc, L, zi i :: zr (some (c, o)) :: st, h) K := by
  intro x hx P xc xs hP
  obtain ⟨h1, h2⟩ := zg_t hx
  subst hv
  exact zV_st (zS_ald hc hd (by rw [hn]; exact h1)) zle.refl' (k h1 x h2 P xc xs hP)
theorem zG_ast {e : Option α} {c o n : Nat} {i : Int32} {v : zV} {h' : zH} (hc : zrow c = true) (hd : decode M.2.1 pc = .ok (zast (zel c), 1)) (hn : zN c = n) (hp : zaput h c o i.toNatClampNeg v = some h') (k : zb i n = true → zGl l M X bc bs e (pc + 1, L, st, h') K) : zGl l M X bc bs (zg (zb i n) e) (pc, L, v :: zi i :: zr (some (c, o)) :: st, h) K := by
  intro x hx P xc xs hP
  obtain ⟨h1, h2⟩ := zg_t hx
  refine zV_st (zS_ast hc hd (by rw [hn]; exact h1) hp) ?_ (k h1 x h2 P xc xs hP)
  unfold zaput at hp
  split at hp <;> first | (cases hp; done) | (cases hp; exact zle.same rfl)
theorem zG_alen {e : Option α} {c o : Nat} {v : Int32} (hc : zrow c = true) (hd : decode M.2.1 pc = .ok (.arraylength, 1)) (hv : Int32.ofNat (zN c) = v) (k : zGl l M X bc bs e (pc + 1, L, zi v :: st, h) K) : zGl l M X bc bs e (pc, L, zr (some (c, o)) :: st, h) K := by
  subst hv
  exact zG_st (zS_alen hc hd) zle.refl' k
theorem zG_dyn {r : Option (Nat × Nat)} {c : Nat} {f : Nat → Option α} (k : ∀ w, r = some (c, w) → zGl l M X bc bs (f w) (pc, L, zr (some (c, w)) :: st, h) K) : zGl l M X bc bs (zgr r c f) (pc, L, zr r :: st, h) K := by
  intro x hx P xc xs hP
  unfold zgr at hx
  split at hx
  · rename_i q
    split at hx
    · rename_i hb
      have hb := Nat.eq_of_beq_eq_true hb
      obtain ⟨qc, qo⟩ := q
      have hb : qc = c := hb
      subst hb
      exact k qo rfl x hx P xc xs hP
    · cases hx
  · cases hx
theorem zG_guard {e : Option α} {b : Bool} {c : zC} (k : b = true → zGl l M X bc bs e c K) : zGl l M X bc bs (zg b e) c K := fun x hx P xc xs hP => k (zg_t hx).1 x (zg_t hx).2 P xc xs hP
theorem zG_irem {e : Option α} {x y : Int32} (hd : decode M.2.1 pc = .ok (.irem, 1)) (k : zGl l M X bc bs e (pc + 1, L, zi (zrem x y) :: st, h) K) : zGl l M X bc bs (zg (!decide (y = 0)) e) (pc, L, zi y :: zi x :: st, h) K := by
  intro z hz P xc xs hP
  obtain ⟨h1, h2⟩ := zg_t hz
  exact zV_st (zS_irem hd (by simpa using h1)) zle.refl' (k z h2 P xc xs hP)
theorem zG_idiv {e : Option α} {x y : Int32} (hd : decode M.2.1 pc = .ok (.idiv, 1)) (k : zGl l M X bc bs e (pc + 1, L, zi (x / y) :: st, h) K) : zGl l M X bc bs (zg (!decide (y = 0)) e) (pc, L, zi y :: zi x :: st, h) K := by
  intro z hz P xc xs hP
  obtain ⟨h1, h2⟩ := zg_t hz
  exact zV_st (zS_idiv hd (by simpa using h1)) zle.refl' (k z h2 P xc xs hP)
/-- a field that is true or false -/
def zbo (x : Int32) : Bool := decide (x = 0 ∨ x = 1)
theorem zbo_n {x : Int32} (h : zbo x = true) : narrow .boolean (.int x) = .int x := by
  have h := of_decide_eq_true h
  rcases h with rfl | rfl <;> rfl
/-- calls -/
theorem zG_callV {e : Option β} {f : β → Option α} {R : β → Option zV × zH} {c o idx n : Nat} {as rest : List zV} (hct : ∀ a, e = some a → zCt l (true, 2) 2 M' X 0 0 (zr (some (c, o)) :: as) h (.inl (R a).1, (R a).2)) (hd : decode M.2.1 pc = .ok (.invokevirtual idx, 3)) (hcd : zcd M M' n) (hhh : M'.2.2.2.2.1 = []) (hlk : Cond.methodLink M.1.cls idx M'.1 ∈ zW) (hin : Cond.instanceMethod M'.1 ∈ zW) (hse : Cond.selects M'.1.cls M'.1 M'.1 ∈ zW) (hc : c < 12) (hcn : zcn c = M'.1.cls) (hst : st = as.reverse ++ zr (some (c, o)) :: rest) (hn : as.length = n) (hrs : (rest.map zcat).sum ≤ 8)
    (k : ∀ a, zGl l M X bc bs (f a) (pc + 3, L, (R a).1.toList ++ rest, (R a).2) K) : zGl l M X bc bs (e.bind f) (pc, L, st, h) K := by
  intro x hx P xc xs hP
  cases he : e with
  | none => rw [he] at hx; cases hx
  | some a =>
    rw [he] at hx
    refine zV_callV (g' := (true, 2)) (bc := xc + bc) (bs := xs + bs) (mc := 0) (ms := 0) hd (hct a he) hcd hhh hlk hin hse hc hcn hst hn hrs (Or.inl rfl) ⟨fun r hr _ => ?_, fun k hk => by cases hk⟩
    cases hr
    exact k a x hx P xc xs hP
theorem zG_callS {e : Option β} {f : β → Option α} {R : β → Option zV × zH} {idx n : Nat} {as rest : List zV} (hct : ∀ a, e = some a → zCt l (true, 2) 2 M' X 0 0 as h (.inl (R a).1, (R a).2)) (hd : decode M.2.1 pc = .ok (.invokestatic idx, 3)) (hcd : zcd M M' n) (hhh : M'.2.2.2.2.1 = []) (hlk : Cond.methodLink M.1.cls idx M'.1 ∈ zW) (hsm : Cond.static M'.1 ∈ zW) (hst : st = as.reverse ++ rest) (hn : as.length = n) (hrs : (rest.map zcat).sum ≤ 8)
    (k : ∀ a, zGl l M X bc bs (f a) (pc + 3, L, (R a).1.toList ++ rest, (R a).2) K) : zGl l M X bc bs (e.bind f) (pc, L, st, h) K := by
  intro x hx P xc xs hP
  cases he : e with
  | none => rw [he] at hx; cases hx
  | some a =>
    rw [he] at hx
    refine zV_callS (g' := (true, 2)) (bc := xc + bc) (bs := xs + bs) (mc := 0) (ms := 0) hd (hct a he) hcd hhh hlk hsm hst hn hrs (Or.inl rfl) ⟨fun r hr _ => ?_, fun k hk => by cases hk⟩
    cases hr
    exact k a x hx P xc xs hP
theorem zG_callN {e : Option β} {f : β → Option α} {R : β → Option zV × zH} {idx n : Nat} {host : String} {as rest : List zV} (hct : ∀ a, e = some a → zCt l (true, 2) 2 M' X 0 0 as h (.inl (R a).1, (R a).2)) (hd : decode M.2.1 pc = .ok (.invokestatic idx, 3)) (hcd : zcd M M' n) (hhh : M'.2.2.2.2.1 = []) (hlk : Cond.methodLinkNest M.1.cls idx M'.1 host ∈ zNest) (hsm : Cond.static M'.1 ∈ zW) (hst : st = as.reverse ++ rest) (hn : as.length = n) (hrs : (rest.map zcat).sum ≤ 8)
    (k : ∀ a, zGl l M X bc bs (f a) (pc + 3, L, (R a).1.toList ++ rest, (R a).2) K) : zGl l M X bc bs (e.bind f) (pc, L, st, h) K := by
  intro x hx P xc xs hP
  cases he : e with
  | none => rw [he] at hx; cases hx
  | some a =>
    rw [he] at hx
    exact zV_callSN (g' := (true, 2)) (bc := xc + bc) (bs := xs + bs) (mc := 0) (ms := 0) hd (hct a he) hcd hhh hlk hsm hst hn hrs (Or.inl rfl) (fun _ => k a x hx P xc xs hP)
/-- a callee that may throw, called where nothing is caught -/
theorem zG_callX {e : Option (β × zH ⊕ Nat × zH)} {f : β × zH → Option α} {z : Nat × zH → α} {R : β → Option zV} {c o idx n mc ms : Nat} {as rest : List zV} (hct : ∀ a h1, e = some (.inl (a, h1)) → zCt l (true, 2) 2 M' X mc ms (zr (some (c, o)) :: as) h (.inl (R a), h1)) (hcx : ∀ k h1, e = some (.inr (k, h1)) → zCt l (true, 2) 2 M' X mc ms (zr (some (c, o)) :: as) h (.inr k, h1)) (hd : decode M.2.1 pc = .ok (.invokevirtual idx, 3)) (hcd : zcd M M' n) (hhh : M'.2.2.2.2.1 = []) (hhm : M.2.2.2.2.1 = []) (hlk : Cond.methodLink M.1.cls idx M'.1 ∈ zW) (hin : Cond.instanceMethod M'.1 ∈ zW) (hse : Cond.selects M'.1.cls M'.1 M'.1 ∈ zW) (hc : c < 12) (hcn : zcn c = M'.1.cls) (hst : st = as.reverse ++ zr (some (c, o)) :: rest) (hn : as.length = n) (hrs : (rest.map zcat).sum ≤ 8)
    (hK : ∀ q, K (z q) = .inr (.inr q.1, q.2)) (k : ∀ a, zGl l M X bc bs (f a) (pc + 3, L, (R a.1).toList ++ rest, a.2) K) : zGl l M X (bc + mc) (bs + ms) (e.bind (Sum.elim f fun q => some (z q))) (pc, L, st, h) K := by
  intro x hx P xc xs hP
  cases he : e with
  | none => rw [he] at hx; cases hx
  | some a =>
    rw [he] at hx
    have e1 : xc + (bc + mc) = xc + bc + mc := (Nat.add_assoc _ _ _).symm
    have e2 : xs + (bs + ms) = xs + bs + ms := (Nat.add_assoc _ _ _).symm
    rw [e1, e2]
    rcases a with ⟨a, h1⟩ | ⟨kx, h1⟩
    · refine zV_callV (g' := (true, 2)) (bc := xc + bc) (bs := xs + bs) hd (hct a h1 he) hcd hhh hlk hin hse hc hcn hst hn hrs (Or.inl rfl) ⟨fun r hr _ => ?_, fun k hk => by cases hk⟩
      cases hr
      exact k (a, h1) x hx P xc xs hP
    · have hx : some (z (kx, h1)) = some x := hx
      cases hx
      rw [hK] at hP
      refine zV_callV (g' := (true, 2)) (bc := xc + bc) (bs := xs + bs) hd (hcx kx h1 he) hcd hhh hlk hin hse hc hcn hst hn hrs (Or.inl rfl) ⟨fun r hr => (by cases hr), fun k hk => ?_⟩
      cases hk
      exact ⟨hhm, rfl, hP⟩
theorem zG_throw {x : α} {k ik ic : Nat} (hK : K x = .inr (.inr k, h)) (hk : k = 1 ∨ k = 2) (d0 : decode M.2.1 pc = .ok (.new ik, 3)) (d3 : decode M.2.1 (pc + 3) = .ok (.dup, 1)) (d4 : decode M.2.1 (pc + 4) = .ok (.invokespecial ic, 3)) (d7 : decode M.2.1 (pc + 7) = .ok (.athrow, 1))
    (hw1 : Cond.classLink M.1.cls ik (zexn k) ∈ zW) (hw2 : Cond.initialized (zexn k) ∈ zW) (hat : (vx_at0 M.1.cls ic (zexn k) zexs).all (fun w => (decide (w ∈ lw_tbl) && goodWord w) || decide (w ∈ zNest)) = true) (hgood : ∀ w ∈ Cond.classLink M.1.cls ik (zexn k) :: Cond.initialized (zexn k) :: vx_at0 M.1.cls ic (zexn k) zexs, vx_ot w = true)
    (hrs : (st.map zcat).sum ≤ 8) (hdp : 6 ≤ M.2.2.2.2.2) (hhh : M.2.2.2.2.1 = []) : zGl l M X (bc + 1) (bs + 6) (some x) (pc, L, st, h) K := by
  intro y hy P xc xs hP
  cases hy
  rw [hK] at hP
  exact zV_throw (g := (true, 2)) hk d0 d3 d4 d7 hw1 hw2 hat hgood hrs hdp hhh hP
/-- the contract out of the link -/
theorem zG_ct {e : Option α} {R : α → zF} {args : List zV} {x : α} (hM : zMok M) (hl : l.stackTraces = false) (hn : (zeL args).length ≤ M.2.2.1) (hx : e = some x) (k : zGl l M X bc bs e (0, zeL args ++ List.replicate (M.2.2.1 - (zeL args).length) none, [], h) (fun x => .inr (R x))) : zCt l (true, 2) 2 M X bc bs args h (R x) :=
  zCt_of hM hl hn (by
    have h9 := k x hx (fun f' => f' = R x) 0 0 rfl
    rw [Nat.zero_add, Nat.zero_add] at h9
    exact h9)
end Link
