/-! ===== constructors: heaps that are being made ===== -/
/-- nothing lies from T on -/
def zfr (I : Nat → Nat → Int32) (G : Nat → Nat → Int64) (R : Nat → Nat → Option (Nat × Nat)) (T : Nat) : Prop := ∀ a, T ≤ a → I a = (fun _ => 0) ∧ G a = (fun _ => 0) ∧ R a = fun _ => none
section Init
variable {I : Nat → Nat → Int32} {G : Nat → Nat → Int64} {R : Nat → Nat → Option (Nat × Nat)} {T o k : Nat}
theorem zfr.le (h : zfr I G R T) {T' : Nat} (q : T ≤ T') : zfr I G R T' := fun a ha => h a (Nat.le_trans q ha)
theorem zfr.i (h : zfr I G R T) {v : Int32} (q : o < T) : zfr (zu I o k v) G R T := fun a ha => by
  obtain ⟨h1, h2, h3⟩ := h a ha
  exact ⟨by rw [zu_ne _ _ (by omega), h1], h2, h3⟩
theorem zfr.r (h : zfr I G R T) {v : Option (Nat × Nat)} (q : o < T) : zfr I G (zu R o k v) T := fun a ha => by
  obtain ⟨h1, h2, h3⟩ := h a ha
  exact ⟨h1, h2, by rw [zu_ne _ _ (by omega), h3]⟩
theorem zfr.m (h : zfr I G R T) {f : Nat → Option (Nat × Nat)} (q : o < T) : zfr I G (zuf R o f) T := fun a ha => by
  obtain ⟨h1, h2, h3⟩ := h a ha
  refine ⟨h1, h2, ?_⟩
  unfold zuf
  rw [if_neg (by omega), h3]
theorem znew_f {c : Nat} (hf : zfr I G R T) (hk : zKf T = c) : znew (I, G, R, zKf, T) c = (I, G, R, zKf, T + 1) := by
  obtain ⟨h1, h2, h3⟩ := hf T (Nat.le_refl _)
  have key : ∀ {α : Type} (F : Nat → α) (v : α), F T = v → (fun a => if a = T then v else F a) = F := by
    intro α F v h
    funext a
    split
    · rename_i q
      rw [q, h]
    · rfl
  show ((fun a => if a = T then fun _ => 0 else I a), (fun a => if a = T then fun _ => 0 else G a), (fun a => if a = T then fun _ => none else R a), (fun a => if a = T then c else zKf a), T + 1) = _
  rw [key I _ h1, key G _ h2, key R _ h3, key zKf _ hk]
theorem znewM_f {co ci n : Nat} (hf : zfr I G R T) (hk : zKf T = co) (hki : ∀ j, j < n → zKf (T + 1 + j) = ci) : znewM (I, G, R, zKf, T) co ci n = (I, G, zuf R T (fun k => if k < n then some (ci, T + 1 + k) else none), zKf, T + 1 + n) := by
  have key : ∀ {α : Type} (F : Nat → α) (v : α), (∀ a, T ≤ a → F a = v) → (fun a => if T ≤ a ∧ a < T + 1 + n then v else F a) = F := by
    intro α F v h
    funext a
    split
    · rename_i q
      rw [h a q.1]
    · rfl
  have kR : (fun a => if a = T then (fun k => if k < n then some (ci, T + 1 + k) else none) else if T ≤ a ∧ a < T + 1 + n then fun _ => none else R a) = zuf R T (fun k => if k < n then some (ci, T + 1 + k) else none) := by
    funext a
    unfold zuf
    split
    · rfl
    · split
      · rename_i q
        rw [(hf a q.1).2.2]
      · rfl
  have kK : (fun a => if a = T then co else if T ≤ a ∧ a < T + 1 + n then ci else zKf a) = zKf := by
    funext a
    split
    · rename_i q
      rw [q, hk]
    · split
      · rename_i q1 q
        have := hki (a - (T + 1)) (by omega)
        rw [show T + 1 + (a - (T + 1)) = a by omega] at this
        exact this.symm
      · rfl
  show ((fun a => if T ≤ a ∧ a < T + 1 + n then fun _ => 0 else I a), (fun a => if T ≤ a ∧ a < T + 1 + n then fun _ => 0 else G a), (fun a => if a = T then (fun k => if k < n then some (ci, T + 1 + k) else none) else if T ≤ a ∧ a < T + 1 + n then fun _ => none else R a), (fun a => if a = T then co else if T ≤ a ∧ a < T + 1 + n then ci else zKf a), T + 1 + n) = _
  rw [key I _ (fun a ha => (hf a ha).1), key G _ (fun a ha => (hf a ha).2.1), kR, kK]
end Init
/-! runs in any mode -/
def zdgi (M : zM) (cc : ByteArray) (T : List (Nat × Nat × Nat)) : Nat → List (Instr × Nat × Nat) → Bool
  | _, [] => true
  | pc, q :: r => decide (decode cc pc = .ok (q.1, zil q.1)) && ((match q.1 with
    | .getfield idx => decide ((idx, q.2) ∈ T)
    | .putfield idx => decide ((idx, q.2) ∈ T) && (!(zcF q.2.1 q.2.2).2.2.2 || (M.1.name == "<init>" && zcn q.2.1 == M.1.cls))
    | _ => true) && zdgi M cc T (znx q.1 pc) r)
def zsxm (md : Nat) (q : Instr × Nat × Nat) (c : zC) : Option zC := match q.1 with
  | .getfield _ => match c.2.2.1 with
    | .inr (.inr (some r)) :: st => match Nat.beq r.1 q.2.1 with
      | true => some (c.1 + 3, c.2.1, zgv md c.2.2.2 q.2.1 r.2 q.2.2 :: st, c.2.2.2)
      | false => none
    | _ => none
  | .putfield _ => match c.2.2.1 with
    | v :: .inr (.inr (some r)) :: st => match Nat.beq r.1 q.2.1 with
      | true => match zput md c.2.2.2 q.2.1 r.2 q.2.2 v with
        | some h' => some (c.1 + 3, c.2.1, st, h')
        | none => none
      | false => none
    | _ => none
  | i => match zx1 i c.1 c.2.1 c.2.2.1 with
    | some z => some (z.1, z.2.1, z.2.2, c.2.2.2)
    | none => none
def zrunm (md : Nat) : List (Instr × Nat × Nat) → zC → Option zC
  | [], c => some c
  | q :: r, c => match zsxm md q c with
    | some c' => zrunm md r c'
    | none => none
theorem zrunm_s {l : Launch} {md : Nat} {M : zM} {X : zX} {T : List (Nat × Nat × Nat)} (hT : zTok M.1.cls T) : ∀ (is : List (Instr × Nat × Nat)) (c c' : zC), zdgi M M.2.1 T c.1 is = true → zrunm md is c = some c' → zStp l md M X c c' ∧ zle true c.2.2.2 c'.2.2.2
  | [], c, c', _, h => by
    cases h
    exact ⟨zStp.refl, zle.refl'⟩
  | q :: r, c, c', hd, h => by
    unfold zdgi at hd
    rw [Bool.and_eq_true, Bool.and_eq_true] at hd
    obtain ⟨hd1, hd2, hd3⟩ := hd
    have hd1 := of_decide_eq_true hd1
    unfold zrunm at h
    split at h
    · rename_i c1 hc1
      have key : zStp l md M X c c1 ∧ zle true c.2.2.2 c1.2.2.2 ∧ c1.1 = znx q.1 c.1 := by
        obtain ⟨i, ck, sk⟩ := q
        obtain ⟨pc, L, st, h0⟩ := c
        have other : (∀ idx, i ≠ .getfield idx) → (∀ idx, i ≠ .putfield idx) → (match zx1 i pc L st with
            | some z => some (z.1, z.2.1, z.2.2, h0)
            | none => none) = some c1 → zStp l md M X (pc, L, st, h0) c1 ∧ zle true h0 c1.2.2.2 ∧ c1.1 = znx i pc := by
          intro _ _ hc2
          split at hc2
          · rename_i z hz
            cases hc2
            exact ⟨zS_x1 hd1 hz, zle.refl', zx1_pc (pc' := z.1) (L' := z.2.1) (st' := z.2.2) hz⟩
          · cases hc2
        cases i
        case getfield idx =>
          rcases st with _ | ⟨v, st⟩
          · cases hc1
          · rcases v with x | x | r
            · cases hc1
            · cases hc1
            · rcases r with _ | ⟨rc, ro⟩
              · cases hc1
              · have hc1 : (match Nat.beq rc ck with
                  | true => some (pc + 3, L, zgv md h0 ck ro sk :: st, h0)
                  | false => none) = some c1 := hc1
                split at hc1
                · rename_i hb
                  cases hc1
                  have hb := Nat.eq_of_beq_eq_true hb
                  subst hb
                  have hm := of_decide_eq_true hd2
                  obtain ⟨w1, w2, w3⟩ := hT _ hm
                  exact ⟨zS_get hd1 w2 w3 w1, zle.refl', rfl⟩
                · cases hc1
        case putfield idx =>
          rcases st with _ | ⟨v, _ | ⟨w, st⟩⟩
          · cases hc1
          · cases hc1
          · rcases w with x | x | r
            · cases hc1
            · cases hc1
            · rcases r with _ | ⟨rc, ro⟩
              · cases hc1
              · have hc1 : (match Nat.beq rc ck with
                  | true => (match zput md h0 ck ro sk v with
                    | some h' => some (pc + 3, L, st, h')
                    | none => none)
                  | false => none) = some c1 := hc1
                split at hc1
                · rename_i hb
                  have hb := Nat.eq_of_beq_eq_true hb
                  subst hb
                  split at hc1
                  · rename_i h' hp
                    cases hc1
                    dsimp only at hd2
                    rw [Bool.and_eq_true] at hd2
                    have hm := of_decide_eq_true hd2.1
                    obtain ⟨w1, w2, w3⟩ := hT _ hm
                    have hfin : (zcF rc sk).2.2.2 = false ∨ ((zcF rc sk).2.2.2 = true ∧ M.1.name = "<init>" ∧ zcn rc = M.1.cls) := by
                      have h9 := hd2.2
                      rw [Bool.or_eq_true, Bool.and_eq_true, Bool.not_eq_true'] at h9
                      rcases h9 with h9 | ⟨h9, h8⟩
                      · exact Or.inl h9
                      · cases hq9 : (zcF rc sk).2.2.2
                        · exact Or.inl rfl
                        · exact Or.inr ⟨rfl, eq_of_beq h9, eq_of_beq h8⟩
                    exact ⟨zS_put hd1 w2 w3 w1 hfin hp, zput_le hp, rfl⟩
                  · cases hc1
                · cases hc1
        all_goals exact other (fun _ q => by cases q) (fun _ q => by cases q) hc1
      obtain ⟨k1, k2, k3⟩ := key
      obtain ⟨j1, j2⟩ := zrunm_s hT r c1 c' (by rw [k3]; exact hd3) h
      exact ⟨k1.trans j1, k2.trans j2⟩
    · cases h
section Init2
variable {l : Launch} {g : Bool × Nat} {md : Nat} {M M' : zM} {X : zX} {bc bs bc' bs' pc : Nat} {L : List (Option zV)} {st : List zV} {h : zH} {P : zF → Prop} {I : Nat → Nat → Int32} {G : Nat → Nat → Int64} {R : Nat → Nat → Option (Nat × Nat)} {T : Nat}
theorem zV_mono {c : zC} (h1 : bc' ≤ bc) (h2 : bs' ≤ bs) (k : zVV l g md M X bc' bs' c P) : zVV l g md M X bc bs c P := by
  intro p e R s m args below meth cd D cA ad0 A Q hC hf hl ad H locs ls cells slots ha hG hc hs hF
  exact k p e R s m args below meth cd D cA ad0 A Q hC hf hl ad H locs ls cells slots ha hG (by omega) (by omega) hF
theorem zV_eq {c c0 : zC} (e : c0 = c) (k : zVV l g md M X bc bs c P) : zVV l g md M X bc bs c0 P := e ▸ k
theorem zH_run {T9 : List (Nat × Nat × Nat)} (hT : zTok M.1.cls T9) (is : List (Instr × Nat × Nat)) (c' : zC) (hd : zdgi M M.2.1 T9 pc is = true) (hr : zrunm md is (pc, L, st, h) = some c') (k : zVV l g md M X bc bs c' P) : zVV l g md M X bc bs (pc, L, st, h) P :=
  zV_st (zrunm_s (l := l) (md := md) (X := X) hT is (pc, L, st, h) c' hd hr).1 (by
    have := (zrunm_s (l := l) (md := md) (X := X) hT is (pc, L, st, h) c' hd hr).2
    cases hg : g.1
    · exact zle.weak this
    · exact this) k
theorem zH_obj {idx : Nat} {q : Nat × Nat} (h1 : Cond.methodLink M.1.cls idx objectInit ∈ zW) (h2 : Cond.instanceMethod objectInit ∈ zW) (h3 : Cond.code objectInit ⟨#[0xb1]⟩ 1 none ∈ zW) (hd : decode M.2.1 pc = .ok (.invokespecial idx, 3)) (hrs : (st.map zcat).sum ≤ 8) (hdp : 1 ≤ M.2.2.2.2.2) (k : zVV l g md M X bc bs (pc + 3, L, st, h) P) : zVV l g md M X bc bs (pc, L, zr (some q) :: st, h) P := zV_obj hd h1 h2 h3 hrs hdp k
theorem zH_new {idx c : Nat} (h1 : Cond.classLink M.1.cls idx (zcn c) ∈ zW) (h2 : Cond.instantiable (zcn c) (zN c) ∈ zW) (h3 : Cond.initialized (zcn c) ∈ zW) (hd : decode M.2.1 pc = .ok (.new idx, 3)) (hc : c < 12) (hT : T < zSO) (hg : g.1 = false) (hfr : ∀ o k, zstm md c o k = none) (hf : zfr I G R T) (hk : zKf T = c) (hb : bc' + 1 ≤ bc) (hs : bs' + zN c ≤ bs)
    (k : zVV l g md M X bc' bs' (pc + 3, L, zr (some (c, T)) :: st, (I, G, R, zKf, T + 1)) P) : zVV l g md M X bc bs (pc, L, st, (I, G, R, zKf, T)) P :=
  zV_mono hb hs (zV_new hd hc h1 h2 h3 hT hg hfr (by rw [znew_f hf hk]; exact k))
theorem zH_newa {c : Nat} {at9 : ArrayType} {x : Int32} (hw : Cond.arrayClass (zel c) ∈ zW) (hd : decode M.2.1 pc = .ok (.newarray at9, 2)) (hc : zrow c = true) (hty : newarray.typeOf at9 = zel c) (hpr : zprim (zel c) = true) (hn : ¬ x < 0) (hN : x.toNatClampNeg = zN c) (hsz : zN c ≤ 100000) (hT : T < zSO) (hg : g.1 = false) (hfr : ∀ o k, zstm md c o k = none) (hf : zfr I G R T) (hk : zKf T = c) (hb : bc' + 1 ≤ bc) (hs : bs' + zN c ≤ bs)
    (k : zVV l g md M X bc' bs' (pc + 2, L, zr (some (c, T)) :: st, (I, G, R, zKf, T + 1)) P) : zVV l g md M X bc bs (pc, L, zi x :: st, (I, G, R, zKf, T)) P :=
  zV_mono hb hs (zV_newa hd hc hty hpr hw hn hN hsz hT hg hfr (by rw [znew_f hf hk]; exact k))
theorem zH_newq {c idx : Nat} {C : String} {x : Int32} (hw : Cond.classLink M.1.cls idx C ∈ zW) (hd : decode M.2.1 pc = .ok (.anewarray idx, 3)) (hc : zrow c = true) (hty : zel c = .object C) (hC9 : C = "ScanPacker$State" ∨ C = "java/lang/String") (hn : ¬ x < 0) (hN : x.toNatClampNeg = zN c) (hsz : zN c ≤ 100000) (hT : T < zSO) (hg : g.1 = false) (hfr : ∀ o k, zstm md c o k = none) (hf : zfr I G R T) (hk : zKf T = c) (hb : bc' + 1 ≤ bc) (hs : bs' + zN c ≤ bs)
    (k : zVV l g md M X bc' bs' (pc + 3, L, zr (some (c, T)) :: st, (I, G, R, zKf, T + 1)) P) : zVV l g md M X bc bs (pc, L, zi x :: st, (I, G, R, zKf, T)) P :=
  zV_mono hb hs (zV_newq hd hc hty hw hC9 hn hN hsz hT hg hfr (by rw [znew_f hf hk]; exact k))
theorem zH_mna {co ci idx : Nat} {ty : FieldType} {x y : Int32} (hw : Cond.classLink M.1.cls idx ("[" ++ (FieldType.array ty).toString) ∈ zW) (hw2 : Cond.arrayClass ty ∈ zW) (hd : decode M.2.1 pc = .ok (.multianewarray idx 2, 4)) (hco : zrow co = true) (hci : zrow ci = true) (hto : zel co = .array ty) (hti : zel ci = ty) (hty : ty = .int ∨ ty = .long) (hn : ¬ x < 0) (hn2 : ¬ y < 0) (hN : x.toNatClampNeg = zN co) (hN2 : y.toNatClampNeg = zN ci) (hsz : zN co ≤ 10000) (hsz2 : zN ci ≤ 10000) (hT : T + 1 + zN co ≤ zSO) (hg : g.1 = false) (hf1 : ∀ o k, zstm md co o k = none) (hf2 : ∀ o k, zstm md ci o k = none) (hf : zfr I G R T) (hk : zKf T = co) (hki : ∀ j, j < zN co → zKf (T + 1 + j) = ci) (hb : bc' + (1 + zN co) ≤ bc) (hs : bs' + (zN co + zN co * zN ci) ≤ bs)
    (k : zVV l g md M X bc' bs' (pc + 4, L, zr (some (co, T)) :: st, (I, G, zuf R T (fun k => if k < zN co then some (ci, T + 1 + k) else none), zKf, T + 1 + zN co)) P) : zVV l g md M X bc bs (pc, L, zi y :: zi x :: st, (I, G, R, zKf, T)) P :=
  zV_mono hb hs (zV_mna hd hco hci hto hti hty hw hw2 hn hn2 hN hN2 hsz hsz2 hT hg hf1 hf2 (by rw [znewM_f hf hk hki]; exact k))
theorem zH_callIN {c o idx mc ms n : Nat} {r : Option zV} {h' : zH} {host : String} {g' : Bool × Nat} {rest : List zV} (hlk : Cond.methodLinkNest M.1.cls idx M'.1 host ∈ zNest) (hin : Cond.instanceMethod M'.1 ∈ zW) (hct : zCt l g' md M' X mc ms [zr (some (c, o))] h (.inl r, h')) (hd : decode M.2.1 pc = .ok (.invokespecial idx, 3)) (hcd : zcd M M' 0) (hhh : M'.2.2.2.2.1 = []) (hret : M'.2.2.2.1 = none) (hy1 : M'.1.name = "<init>") (hrs : (rest.map zcat).sum ≤ 8) (hst9 : g'.1 = true ∨ g.1 = false) (hb : bc' + mc ≤ bc) (hs : bs' + ms ≤ bs)
    (k : zVV l g g'.2 M X bc' bs' (pc + 3, L, r.toList ++ rest, h') P) : zVV l g md M X bc bs (pc, L, zr (some (c, o)) :: rest, h) P :=
  zV_mono hb hs (zV_callIN hd hct hcd hhh hret hlk hin hy1 (as := []) (rest := rest) rfl rfl hrs hst9 (fun _ => k))
theorem zH_callI {c o idx mc ms n : Nat} {r : Option zV} {h' : zH} {g' : Bool × Nat} {rest : List zV} (hlk : Cond.methodLink M.1.cls idx M'.1 ∈ zW) (hin : Cond.instanceMethod M'.1 ∈ zW) (hct : zCt l g' md M' X mc ms [zr (some (c, o))] h (.inl r, h')) (hd : decode M.2.1 pc = .ok (.invokespecial idx, 3)) (hcd : zcd M M' 0) (hhh : M'.2.2.2.2.1 = []) (hret : M'.2.2.2.1 = none) (hy1 : M'.1.name = "<init>") (hrs : (rest.map zcat).sum ≤ 8) (hst9 : g'.1 = true ∨ g.1 = false) (hb : bc' + mc ≤ bc) (hs : bs' + ms ≤ bs)
    (k : zVV l g g'.2 M X bc' bs' (pc + 3, L, r.toList ++ rest, h') P) : zVV l g md M X bc bs (pc, L, zr (some (c, o)) :: rest, h) P :=
  zV_mono hb hs (zV_callI hd hct hcd hhh hret hlk hin hy1 (as := []) (rest := rest) rfl rfl hrs hst9 (fun _ => k))
theorem zref_same {md md' : Nat} {cA : Nat → ClassId} {ad : Nat → Nat} {h : zH} (hm : ∀ o, o < ztop h → ∀ k, k < zN (zK h o) → zty (zK h o) k = 2 → zref md h (zK h o) o k = zref md' h (zK h o) o k) : zws md cA ad h = zws md' cA ad h := by
  unfold zws
  apply List.map_congr_left
  intro o ho
  have ho := List.mem_range.mp ho
  have hv : ∀ k, k < zN (zK h o) → zfv md ad h (zK h o) o k = zfv md' ad h (zK h o) o k := by
    intro k hk
    unfold zfv
    split
    · rfl
    · rename_i h2
      rw [hm o ho k hk h2]
    · rfl
  congr 1
  unfold zent
  cases hz : zobj (zK h o)
  · have h2 : ∀ (q : zty (zK h o) 0 = 2), (fun k => if k < zN (zK h o) then zadr ad (zref md h (zK h o) o k) else none) = fun k => if k < zN (zK h o) then zadr ad (zref md' h (zK h o) o k) else none := by
      intro q
      funext k
      split
      · rename_i hk
        rw [hm o ho k hk (by rw [zty_row hz]; exact q)]
      · rfl
    dsimp only
    generalize hq : zty (zK h o) 0 = q at h2 ⊢
    match q with
    | 0 => rfl
    | 1 => rfl
    | 2 => rw [h2 rfl]
    | n + 3 => rfl
  · dsimp only
    rw [List.map_congr_left (fun k hk => hv k (List.mem_range.mp hk))]
/-- what is settled is told from now on -/
theorem zV_mode {md' : Nat} {c : zC} (hm : ∀ o, o < ztop c.2.2.2 → ∀ k, k < zN (zK c.2.2.2 o) → zty (zK c.2.2.2 o) k = 2 → zref md c.2.2.2 (zK c.2.2.2 o) o k = zref md' c.2.2.2 (zK c.2.2.2 o) o k) (k : zVV l g md' M X bc bs c P) : zVV l g md M X bc bs c P := by
  intro p e R s m args below meth cd D cA ad0 A Q hC hf hl ad H locs ls cells slots ha hG hc hs hF
  obtain ⟨⟨w1, w2, w3, w4⟩, g2⟩ := hG
  refine k p e R s m args below meth cd D cA ad0 A Q hC hf hl ad H locs ls cells slots ha ⟨⟨?_, ?_, fun o ho k hk h2 => ?_, w4⟩, g2⟩ hc hs hF
  · rw [← zref_same hm]
    exact w1
  · rw [← zref_same hm]
    exact w2
  · rw [← hm o ho k hk h2]
    exact w3 o ho k hk h2
end Init2
