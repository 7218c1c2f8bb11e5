/-! ===== making, throwing, catching ===== -/
theorem zV_obj {l : Launch} {g : Bool × Nat} {md : Nat} {M : zM} {X : zX} {bc bs pc idx : Nat} {q : Nat × Nat} {L : List (Option zV)} {st : List zV} {h : zH} {P : zF → Prop} (hd : decode M.2.1 pc = .ok (.invokespecial idx, 3)) (h1 : Cond.methodLink M.1.cls idx objectInit ∈ zW) (h2 : Cond.instanceMethod objectInit ∈ zW) (h3 : Cond.code objectInit ⟨#[0xb1]⟩ 1 none ∈ zW)
    (hrs : (st.map zcat).sum ≤ 8) (hdp : 1 ≤ M.2.2.2.2.2) (k : zVV l g md M X bc bs (pc + 3, L, st, h) P) : zVV l g md M X bc bs (pc, L, zr (some q) :: st, h) P := by
  intro p e R s m args below meth cd D cA ad0 A Q hC hf hl ad H locs ls cells slots ha hG hc hs hF
  obtain ⟨g1, g2, g3, g4, g5, g6⟩ := hG
  obtain ⟨hx, hb, hr, hml, hown, hts, -⟩ := id hC
  refine W.objInit hx hb hown (hts _ h1) (hts _ h2) (hts _ h3) rfl (by rw [hml]; exact g3.1) (a := ad q.2) (rest := st.map (zcv ad)) rfl hd (by omega) ?_ ?_
  · have : ((st.map (zcv ad)).map fun v => v.category).sum ≤ 8 := by rw [zcats]; exact hrs
    show 2 * 0 + _ + 12 ≤ _
    omega
  · exact W.eq rfl (k p e R s m args below meth cd D cA ad0 A Q hC hf hl ad H locs ls cells slots ha ⟨g1, g2, g3, g4, g5, g6.tl⟩ hc hs hF)
/-- one place more: of the kind c, all 0 -/
def znew (h : zH) (c : Nat) : zH := (fun a => if a = ztop h then fun _ => 0 else h.1 a, fun a => if a = ztop h then fun _ => 0 else h.2.1 a, fun a => if a = ztop h then fun _ => none else h.2.2.1 a, fun a => if a = ztop h then c else zK h a, ztop h + 1)
theorem zadr_eq {ad ad' : Nat → Nat} {h : zH} {r : Option (Nat × Nat)} (hr : zok h r) (h1 : ∀ o, o < ztop h ∨ zSO ≤ o → ad' o = ad o) : zadr ad' r = zadr ad r := zadr_ag (h := h) h1 hr
theorem zok_new {h h' : zH} {r : Option (Nat × Nat)} (ht : ztop h ≤ ztop h') (hK : ∀ o, o < ztop h → zK h' o = zK h o) (hr : zok h r) : zok h' r := by
  intro q hq
  rcases hr q hq with h1 | h1
  · exact Or.inl ⟨Nat.lt_of_lt_of_le h1.1 ht, by rw [hK _ h1.1]; exact h1.2⟩
  · exact Or.inr h1
theorem zvok_new {h h' : zH} {v : zV} (ht : ztop h ≤ ztop h') (hK : ∀ o, o < ztop h → zK h' o = zK h o) (hr : zvok h v) : zvok h' v := by
  rcases v with x | x | r
  · trivial
  · trivial
  · exact zok_new ht hK hr
theorem zent_ag {md : Nat} {cA : Nat → ClassId} {ad ad' : Nat → Nat} {h : zH} (hR : zRok md h) (hag : zag (ztop h) ad ad') {o : Nat} (ho : o < ztop h) : zent md cA ad' h (zK h o) o = zent md cA ad h (zK h o) o := by
  have e : ∀ k, k < zN (zK h o) → zty (zK h o) k = 2 → zadr ad' (zref md h (zK h o) o k) = zadr ad (zref md h (zK h o) o k) := fun k hk h2 => zadr_ag hag (hR o ho k hk h2)
  cases hz : zobj (zK h o) with
  | true =>
    simp only [zent, hz]
    congr 2
    apply List.map_congr_left
    intro k hk
    have hk := List.mem_range.mp hk
    unfold zfv
    generalize ht : zty (zK h o) k = t
    match t, ht with
    | 0, _ => rfl
    | 1, _ => rfl
    | 2, h2 => exact congrArg va_rf (e k hk h2)
    | n + 3, _ => rfl
  | false =>
    rw [zent_row hz, zent_row hz]
    have hty := fun k => zty_row (c := zK h o) (k := k) hz
    generalize ht : zty (zK h o) 0 = t
    match t, ht with
    | 0, _ => rfl
    | 1, _ => rfl
    | n + 3, _ => rfl
    | 2, h2 =>
      exact congrArg (fun f => (Sum.inl (cA (zK h o), zN (zK h o), Sum.inr (Sum.inr (Sum.inr (Sum.inr f)))) : va_E)) (funext fun k => by
        split
        · rename_i hk
          exact e k hk ((hty k).trans h2)
        · rfl)
theorem zws_more {md : Nat} {cA : Nat → ClassId} {ad ad' : Nat → Nat} {h h' : zH} (hR : zRok md h) (hag : zag (ztop h) ad ad') (ht : ztop h ≤ ztop h') (hK : ∀ o, o < ztop h → zK h' o = zK h o) (h0 : ∀ a, a < ztop h → h'.1 a = h.1 a ∧ h'.2.1 a = h.2.1 a ∧ h'.2.2.1 a = h.2.2.1 a) :
    ∀ j, j < ztop h → (zws md cA ad' h')[j]? = (zws md cA ad h)[j]? := by
  intro j hj
  rw [zws_get hj, zws_get (Nat.lt_of_lt_of_le hj ht), hK j hj, hag j (Or.inl hj)]
  obtain ⟨e1, e2, e3⟩ := h0 j hj
  rw [zent_congr e1 e2 e3, zent_ag hR hag hj]
theorem zws_push {md : Nat} {cA : Nat → ClassId} {ad ad' : Nat → Nat} {h h' : zH} (hR : zRok md h) (hag : zag (ztop h) ad ad') (ht : ztop h' = ztop h + 1) (hK : ∀ o, o < ztop h → zK h' o = zK h o) (h0 : ∀ a, a < ztop h → h'.1 a = h.1 a ∧ h'.2.1 a = h.2.1 a ∧ h'.2.2.1 a = h.2.2.1 a) :
    zws md cA ad' h' = zws md cA ad h ++ [(ad' (ztop h), zent md cA ad' h' (zK h' (ztop h)) (ztop h))] := by
  apply List.ext_getElem?
  intro j
  by_cases hj : j < ztop h
  · rw [zws_more hR hag (by omega) hK h0 j hj, List.getElem?_append_left (by rw [zws_len]; exact hj)]
  · rw [List.getElem?_append_right (by rw [zws_len]; omega), zws_len]
    by_cases e : j = ztop h
    · subst e
      rw [zws_get (by omega), Nat.sub_self]
      rfl
    · rw [List.getElem?_eq_none (by rw [zws_len]; omega)]
      rw [List.getElem?_eq_none (by simp; omega)]
def zadn (ad : Nat → Nat) (n q : Nat) : Nat → Nat := fun j => if j = n then q else ad j
theorem zadn_ag {ad : Nat → Nat} {n q : Nat} (hn : n < zSO) : zag n ad (zadn ad n q) := by
  intro o ho
  unfold zadn
  rw [if_neg (by omega)]
theorem zadn_at {ad : Nat → Nat} {n q : Nat} : zadn ad n q n = q := if_pos rfl
theorem znew_old {h : zH} {c : Nat} : (∀ o, o < ztop h → zK (znew h c) o = zK h o) ∧ ∀ a, a < ztop h → (znew h c).1 a = h.1 a ∧ (znew h c).2.1 a = h.2.1 a ∧ (znew h c).2.2.1 a = h.2.2.1 a := by
  constructor
  · intro o ho
    show (if o = ztop h then c else zK h o) = _
    rw [if_neg (by omega)]
  · intro a ha
    refine ⟨if_neg (by omega), if_neg (by omega), if_neg (by omega)⟩
theorem znew_at {h : zH} {c : Nat} : zK (znew h c) (ztop h) = c ∧ (znew h c).1 (ztop h) = (fun _ => 0) ∧ (znew h c).2.1 (ztop h) = (fun _ => 0) ∧ (znew h c).2.2.1 (ztop h) = fun _ => none := ⟨if_pos rfl, if_pos rfl, if_pos rfl, if_pos rfl⟩
theorem znew_R {md : Nat} {h : zH} {c : Nat} (hfr : ∀ o k, zstm md c o k = none) (hR : zRok md h) : zRok md (znew h c) := by
  intro o ho k hk h2
  by_cases e : o = ztop h
  · subst e
    rw [znew_at.1]
    unfold zref
    rw [hfr]
    show zok _ ((znew h c).2.2.1 (ztop h) k)
    rw [znew_at.2.2.2]
    intro q hq
    cases hq
  · have ho' : o < ztop h := by
      have : o < ztop h + 1 := ho
      omega
    have hKK := (znew_old (h := h) (c := c)).1 o ho'
    rw [hKK] at hk h2 ⊢
    have := hR o ho' k hk h2
    unfold zref at this ⊢
    rw [(znew_old.2 o ho').2.2]
    exact zok_new (Nat.le_succ _) znew_old.1 this
/-- the rest of a making: the world has one place more -/
theorem zV_made {l : Launch} {g : Bool × Nat} {md : Nat} {M : zM} {X : zX} {bc bs pc pc' c : Nat} {L : List (Option zV)} {st0 st : List zV} {h : zH} {P : zF → Prop} (hg : g.1 = false) (hfr : ∀ o k, zstm md c o k = none) (hT : ztop h < zSO) (hso : zSok h st0 → zSok h st)
    (step : ∀ (p : Program) (e : Env) (R : Room) (s : State) (m : MethodId) (args : Array Value) (below : List Frame) (meth : Method) (cd : Code) (D : va_G) (cA : Nat → ClassId) (ad0 : Nat → Nat) (A : Nat → Prop) (Q : State → Prop) (ad : Nat → Nat) (H : Heap) (locs : List Loc) (ls : Array Slot) (cells slots : Nat), zCx l M X D cA ad0 A p s m args meth cd → zag 0 ad0 ad → zWd md D cA ad A h H → va_S A s.heap H locs → cells + 1 ≤ R.cells → slots + zN c ≤ R.slots →
      (∀ (q : Nat) (H1 : Heap), va_P D classes (zws md cA ad h ++ [(q, zent md cA (zadn ad (ztop h) q) (znew h c) c (ztop h))]) H1 → va_D A (zws md cA ad h ++ [(q, zent md cA (zadn ad (ztop h) q) (znew h c) c (ztop h))]) → va_S A s.heap H1 locs → W p l e R s m args below meth cd H1 locs (cells + 1) (slots + zN c) Q (F0 m pc' ls (.ref q :: st.map (zcv ad)))) → W p l e R s m args below meth cd H locs cells slots Q (F0 m pc ls (st0.map (zcv ad))))
    (k : zVV l g md M X bc bs (pc', L, zr (some (c, ztop h)) :: st, znew h c) P) : zVV l g md M X (bc + 1) (bs + zN c) (pc, L, st0, h) P := by
  intro p e R s m args below meth cd D cA ad0 A Q hC hf hl ad H locs ls cells slots ha hG hc hs hF
  obtain ⟨g1, g2, g3, g4, g5, g6⟩ := hG
  obtain ⟨hP, hD, hR, hTT⟩ := id g1
  refine step p e R s m args below meth cd D cA ad0 A Q ad H locs ls cells slots hC ha g1 g2 (by omega) (by omega) fun q H1 hP1 hD1 hS1 => ?_
  have hag : zag (ztop h) ad (zadn ad (ztop h) q) := zadn_ag hT
  have e1 := zws_push (cA := cA) hR hag (h' := znew h c) rfl znew_old.1 znew_old.2
  rw [znew_at.1, zadn_at] at e1
  rw [← e1] at hP1 hD1
  have hst := hso g6
  have e2 : (Value.ref q :: st.map (zcv ad)) = (zr (some (c, ztop h)) :: st).map (zcv (zadn ad (ztop h) q)) := by
    rw [List.map_cons, zmap_ag hag hst]
    show _ = va_rf (some (zadn ad (ztop h) q (ztop h))) :: _
    rw [zadn_at]
    rfl
  rw [e2]
  refine k p e R s m args below meth cd D cA ad0 A Q hC hf hl (zadn ad (ztop h) q) H1 locs ls _ _ (ha.trans hag (Nat.zero_le _)) ⟨⟨hP1, hD1, znew_R hfr hR, hT⟩, hS1, ?_, g4, fun v hv => zvok_new (Nat.le_succ _) znew_old.1 (g5 v hv), ?_⟩ (by omega) (by omega) (fun f hf => (hF f hf).mono hag (by rw [hg]; exact ⟨Nat.le_succ _, znew_old.1⟩))
  · have key : ∀ (L : List (Option zV)) (b : Nat), zLok h L → zE (zadn ad (ztop h) q) b L = zE ad b L := by
      intro L
      induction L with
      | nil => intro b _; rfl
      | cons x r ih =>
        intro b hb
        have h9 := ih (b + 1) (fun v hv => hb v (List.mem_cons_of_mem _ hv))
        cases x with
        | none => exact h9
        | some v =>
          show (b, _) :: _ = (b, _) :: _
          rw [h9, zcv_ag hag (hb v List.mem_cons_self)]
    show lv_has ls _ (zE _ 0 L)
    rw [key L 0 g5]
    exact g3
  · refine zSok.cons ?_ (fun v hv => zvok_new (Nat.le_succ _) znew_old.1 (hst v hv))
    intro q' hq'
    cases hq'
    exact Or.inl ⟨Nat.lt_succ_self _, znew_at.1⟩
theorem zdef_ok : ∀ c, c < 12 → ∀ k, k < zN c → (match zty c k with
    | 1 => Value.long 0
    | 2 => Value.null
    | _ => Value.int 0) = defaultValue (zcT c k) := by decide +kernel
theorem zV_new {l : Launch} {g : Bool × Nat} {md : Nat} {M : zM} {X : zX} {bc bs pc idx c : Nat} {L : List (Option zV)} {st : List zV} {h : zH} {P : zF → Prop} (hd : decode M.2.1 pc = .ok (.new idx, 3)) (hc : c < 12) (h1 : Cond.classLink M.1.cls idx (zcn c) ∈ zW) (h2 : Cond.instantiable (zcn c) (zN c) ∈ zW) (h3 : Cond.initialized (zcn c) ∈ zW) (hT : ztop h < zSO) (hg : g.1 = false) (hfr : ∀ o k, zstm md c o k = none)
    (k : zVV l g md M X bc bs (pc + 3, L, zr (some (c, ztop h)) :: st, znew h c) P) : zVV l g md M X (bc + 1) (bs + zN c) (pc, L, st, h) P := by
  refine zV_made hg hfr hT (fun h => h) ?_ k
  intro p e R s m args below meth cd D cA ad0 A Q ad H locs ls cells slots hC ha g1 g2 hcl hsl kk
  obtain ⟨hx, hb, hr, hml, hown, hts, hlk, htb, hnm, hK, hE, hA, -⟩ := hC
  obtain ⟨hP, hD, hR, hTT⟩ := g1
  have hty : ∀ k, k < zN c → parseFieldDescriptor (zcF c k).2.2.1 = some (zcT c k) := fun j hj => by
    have hf := zfty_ok c hc j hj
    unfold zfty at hf
    rw [Bool.and_eq_true] at hf
    exact eq_of_beq hf.1
  refine va_new (ci := c) (fs := (List.range (zN c)).map (fun k => defaultValue (zcT c k))) (C := zcn c) (T := zcF c) (N := zN c) hx hb hts (zcw_ok c hc) (zcT c) hty hown (hts _ h1) (hts _ h2) (hts _ h3) hK hP hD g2 hA (zcl_ok c hc).1 (fun j hj => ?_) hcl hsl hd (fun q H1 q1 q2 q3 => ?_)
  · simp [vp_V, List.getElem?_map, List.getElem?_range hj]
  · have e : zent md cA (zadn ad (ztop h) q) (znew h c) c (ztop h) = .inr (c, (List.range (zN c)).map (fun k => defaultValue (zcT c k))) := by
      simp only [zent, (zcl_ok c hc).2]
      congr 2
      apply List.map_congr_left
      intro j hj
      rw [← zdef_ok c hc j (List.mem_range.mp hj)]
      unfold zfv zref
      rw [znew_at.2.1, znew_at.2.2.1, znew_at.2.2.2, hfr]
      generalize zty c j = t
      match t with
      | 0 => rfl
      | 1 => rfl
      | 2 => rfl
      | n + 3 => rfl
    rw [← e] at q1 q2
    exact kk q H1 q1 q2 q3
def zprim : FieldType → Bool
  | .int => true
  | .long => true
  | .boolean => true
  | .byte => true
  | _ => false
theorem zV_newa {l : Launch} {g : Bool × Nat} {md : Nat} {M : zM} {X : zX} {bc bs pc c : Nat} {at9 : ArrayType} {x : Int32} {L : List (Option zV)} {st : List zV} {h : zH} {P : zF → Prop} (hd : decode M.2.1 pc = .ok (.newarray at9, 2)) (hc : zrow c = true) (hty : newarray.typeOf at9 = zel c) (hpr : zprim (zel c) = true) (hw : Cond.arrayClass (zel c) ∈ zW) (hn : ¬ x < 0) (hN : x.toNatClampNeg = zN c) (hsz : zN c ≤ 100000) (hT : ztop h < zSO) (hg : g.1 = false) (hfr : ∀ o k, zstm md c o k = none)
    (k : zVV l g md M X bc bs (pc + 2, L, zr (some (c, ztop h)) :: st, znew h c) P) : zVV l g md M X (bc + 1) (bs + zN c) (pc, L, zi x :: st, h) P := by
  refine zV_made hg hfr hT (fun h => h.tl) ?_ k
  intro p e R s m args below meth cd D cA ad0 A Q ad H locs ls cells slots hC ha g1 g2 hcl hsl kk
  obtain ⟨hx, hb, hr, hml, hown, hts, hlk, htb, hnm, hK, hE, hA, -⟩ := hC
  obtain ⟨hP, hD, hR, hTT⟩ := g1
  obtain ⟨z1, z2, z3⟩ := zaty_ok hc
  have hct := ztys_get (cA := cA) z2
  have hen : ∀ q, zent md cA (zadn ad (ztop h) q) (znew h c) c (ztop h) = .inl (cA c, zN c, match zty c 0 with
      | 1 => .inr (.inl (fun _ => 0))
      | 2 => .inr (.inr (.inr (.inr (fun _ => none))))
      | _ => .inl (fun _ => 0)) := by
    intro q
    rw [zent_row z1, znew_at.2.1, znew_at.2.2.1]
    generalize zty c 0 = t
    match t with
    | 0 => rfl
    | 1 => rfl
    | n + 3 => rfl
    | 2 =>
      exact congrArg (fun f => (Sum.inl (cA c, zN c, Sum.inr (Sum.inr (Sum.inr (Sum.inr f)))) : va_E)) (funext fun k => by
        split
        · unfold zref
          rw [hfr, znew_at.2.2.2]
          rfl
        · rfl)
  have fin : ∀ (a0 : vp_A) (q : Nat) (cA' : ClassId) (H1 : Heap), zent md cA (zadn ad (ztop h) q) (znew h c) c (ztop h) = .inl (cA c, a0) → va_K D classes (ztys cA ++ [(cA', zel c)]) s → va_P D classes (zws md cA ad h ++ [(q, .inl (cA', a0))]) H1 → va_D A (zws md cA ad h ++ [(q, .inl (cA', a0))]) → va_S A s.heap H1 locs → W p l e R s m args below meth cd H1 locs (cells + 1) (slots + zN c) Q (F0 m (pc + 2) ls (.ref q :: st.map (zcv ad))) := by
    intro a0 q cA' H1 he qK q1 q2 q3
    have w1 := (qK.2 128 (cA', zel c) (by rw [List.getElem?_append_right (by simp [ztys])]; simp [ztys])).2
    have w2 := (hK.2 c _ hct).2
    have hcc : cA' = cA c := by
      cases hz : zel c <;> rw [hz] at hpr w1 w2 <;> first | (cases hpr; done) | exact Option.some.inj (w1.symm.trans w2)
    rw [hcc, ← he] at q1 q2
    exact kk q H1 q1 q2 q3
  rcases z3 with ⟨e1, e2⟩ | ⟨e1, e2⟩ | ⟨e1, e2⟩ | ⟨e1, e2⟩ | ⟨⟨n, e1⟩, e2⟩ | ⟨⟨n, e1⟩, e2⟩
  · refine va_newa (a0 := (zN c, .inl (fun _ => 0))) hx hb (hts _ (hty ▸ hw)) hty hK hP hD g2 hA (fun cA => by rw [e1]; rfl) hn hN (by rw [e1]; show zN c * 4 ≤ _; omega) hcl hsl hd (fun q cA' H1 qK q1 q2 q3 => fin _ q cA' H1 ?_ qK q1 q2 q3)
    rw [hen, e2]
    rfl
  · refine va_newa (a0 := (zN c, .inr (.inl (fun _ => 0)))) hx hb (hts _ (hty ▸ hw)) hty hK hP hD g2 hA (fun cA => by rw [e1]; rfl) hn hN (by rw [e1]; show zN c * 8 ≤ _; omega) hcl hsl hd (fun q cA' H1 qK q1 q2 q3 => fin _ q cA' H1 ?_ qK q1 q2 q3)
    rw [hen, e2]
    rfl
  · refine va_newa (a0 := (zN c, .inl (fun _ => 0))) hx hb (hts _ (hty ▸ hw)) hty hK hP hD g2 hA (fun cA => by rw [e1]; rfl) hn hN (by rw [e1]; show zN c * 1 ≤ _; omega) hcl hsl hd (fun q cA' H1 qK q1 q2 q3 => fin _ q cA' H1 ?_ qK q1 q2 q3)
    rw [hen, e2]
    rfl
  · refine va_newa (a0 := (zN c, .inl (fun _ => 0))) hx hb (hts _ (hty ▸ hw)) hty hK hP hD g2 hA (fun cA => by rw [e1]; rfl) hn hN (by rw [e1]; show zN c * 1 ≤ _; omega) hcl hsl hd (fun q cA' H1 qK q1 q2 q3 => fin _ q cA' H1 ?_ qK q1 q2 q3)
    rw [hen, e2]
    rfl
  · rw [e1] at hpr
    cases hpr
  · rw [e1] at hpr
    cases hpr
theorem zV_newq {l : Launch} {g : Bool × Nat} {md : Nat} {M : zM} {X : zX} {bc bs pc c idx : Nat} {C : String} {x : Int32} {L : List (Option zV)} {st : List zV} {h : zH} {P : zF → Prop} (hd : decode M.2.1 pc = .ok (.anewarray idx, 3)) (hc : zrow c = true) (hty : zel c = .object C) (hw : Cond.classLink M.1.cls idx C ∈ zW) (hC9 : C = "ScanPacker$State" ∨ C = "java/lang/String") (hn : ¬ x < 0) (hN : x.toNatClampNeg = zN c) (hsz : zN c ≤ 100000) (hT : ztop h < zSO) (hg : g.1 = false) (hfr : ∀ o k, zstm md c o k = none)
    (k : zVV l g md M X bc bs (pc + 3, L, zr (some (c, ztop h)) :: st, znew h c) P) : zVV l g md M X (bc + 1) (bs + zN c) (pc, L, zi x :: st, h) P := by
  refine zV_made hg hfr hT (fun h => h.tl) ?_ k
  intro p e R s m args below meth cd D cA ad0 A Q ad H locs ls cells slots hC ha g1 g2 hcl hsl kk
  obtain ⟨hx, hb, hr, hml, hown, hts, hlk, htb, hnm, hK, hE, hA, -⟩ := hC
  obtain ⟨hP, hD, hR, hTT⟩ := g1
  obtain ⟨z1, z2, z3⟩ := zaty_ok hc
  have hct := ztys_get (cA := cA) z2
  obtain ⟨-, -, -, -, -, -, -, -, -, -, hAr, -⟩ := hE
  have hAO : va_AO C s := by
    rcases hC9 with e | e
    · rw [e]; exact hAr.1
    · rw [e]; exact hAr.2.1
  have e2 : zty c 0 = 2 := by
    rcases z3 with ⟨e1, e2⟩ | ⟨e1, e2⟩ | ⟨e1, e2⟩ | ⟨e1, e2⟩ | ⟨⟨n, e1⟩, e2⟩ | ⟨⟨n, e1⟩, e2⟩ <;> first | exact e2 | (rw [hty] at e1; cases e1)
  refine va_newq hx hb hown (hts _ hw) hAO hK hP hD g2 hA hn hN (by omega) hcl hsl hd (fun q cA' H1 qK q1 q2 q3 => ?_)
  have w1 := (qK.2 128 (cA', .object C) (by rw [List.getElem?_append_right (by simp [ztys])]; simp [ztys])).2
  have w2 := (hK.2 c _ hct).2
  rw [hty] at w2
  obtain ⟨k1, comp1, -, -, -, f1⟩ := w1
  obtain ⟨k2, comp2, -, -, -, f2⟩ := w2
  have hcc : cA' = cA c := Option.some.inj (f1.symm.trans f2)
  have he : zent md cA (zadn ad (ztop h) q) (znew h c) c (ztop h) = .inl (cA c, zN c, .inr (.inr (.inr (.inr (fun _ => none))))) := by
    rw [zent_row z1, e2]
    exact congrArg (fun f => (Sum.inl (cA c, zN c, Sum.inr (Sum.inr (Sum.inr (Sum.inr f)))) : va_E)) (funext fun k => by
      split
      · unfold zref
        rw [hfr, znew_at.2.2.2]
        rfl
      · rfl)
  rw [hcc, ← he] at q1 q2
  exact kk q H1 q1 q2 q3
