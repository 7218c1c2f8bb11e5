/-! rows of rows -/
def znewM (h : zH) (co ci n : Nat) : zH := (fun a => if ztop h ≤ a ∧ a < ztop h + 1 + n then fun _ => 0 else h.1 a, fun a => if ztop h ≤ a ∧ a < ztop h + 1 + n then fun _ => 0 else h.2.1 a,
  fun a => if a = ztop h then (fun k => if k < n then some (ci, ztop h + 1 + k) else none) else if ztop h ≤ a ∧ a < ztop h + 1 + n then fun _ => none else h.2.2.1 a, fun a => if a = ztop h then co else if ztop h ≤ a ∧ a < ztop h + 1 + n then ci else zK h a, ztop h + 1 + n)
theorem znewM_old {h : zH} {co ci n : Nat} : (∀ o, o < ztop h → zK (znewM h co ci n) o = zK h o) ∧ ∀ a, a < ztop h → (znewM h co ci n).1 a = h.1 a ∧ (znewM h co ci n).2.1 a = h.2.1 a ∧ (znewM h co ci n).2.2.1 a = h.2.2.1 a := by
  constructor
  · intro o ho
    show (if o = ztop h then co else if _ then ci else zK h o) = _
    rw [if_neg (by omega), if_neg (by omega)]
  · intro a ha
    refine ⟨if_neg (by omega), if_neg (by omega), ?_⟩
    show (if a = ztop h then _ else if _ then _ else h.2.2.1 a) = _
    rw [if_neg (by omega), if_neg (by omega)]
theorem znewM_in {h : zH} {co ci n a : Nat} (h1 : ztop h < a) (h2 : a < ztop h + 1 + n) : zK (znewM h co ci n) a = ci ∧ (znewM h co ci n).1 a = (fun _ => 0) ∧ (znewM h co ci n).2.1 a = (fun _ => 0) ∧ (znewM h co ci n).2.2.1 a = fun _ => none := by
  refine ⟨?_, if_pos (by omega), if_pos (by omega), ?_⟩
  · show (if a = ztop h then co else if _ then ci else zK h a) = _
    rw [if_neg (by omega), if_pos (by omega)]
  · show (if a = ztop h then _ else if _ then _ else h.2.2.1 a) = _
    rw [if_neg (by omega), if_pos (by omega)]
theorem znewM_at {h : zH} {co ci n : Nat} : zK (znewM h co ci n) (ztop h) = co ∧ (znewM h co ci n).2.2.1 (ztop h) = fun k => if k < n then some (ci, ztop h + 1 + k) else none := ⟨if_pos rfl, if_pos rfl⟩
theorem znewM_R {md : Nat} {h : zH} {co ci n : Nat} (hf1 : ∀ o k, zstm md co o k = none) (hf2 : ∀ o k, zstm md ci o k = none) (hR : zRok md h) : zRok md (znewM h co ci n) := by
  intro o ho k hk h2
  have ho : o < ztop h + 1 + n := ho
  rcases Nat.lt_trichotomy o (ztop h) with e | e | e
  · have hKK := (znewM_old (h := h) (co := co) (ci := ci) (n := n)).1 o e
    rw [hKK] at hk h2 ⊢
    have := hR o e k hk h2
    unfold zref at this ⊢
    rw [((znewM_old (h := h) (co := co) (ci := ci) (n := n)).2 o e).2.2]
    exact zok_new (Nat.le_trans (Nat.le_succ _) (Nat.le_add_right _ _)) znewM_old.1 this
  · subst e
    rw [znewM_at.1]
    unfold zref
    rw [hf1, znewM_at.2]
    intro q hq
    have hq : (if k < n then some (ci, ztop h + 1 + k) else none) = some q := hq
    split at hq
    · rename_i hlt
      cases hq
      refine Or.inl ⟨?_, (znewM_in (by show ztop h < ztop h + 1 + k; omega) (by show ztop h + 1 + k < _; omega)).1⟩
      show ztop h + 1 + k < ztop h + 1 + n
      omega
    · cases hq
  · rw [(znewM_in e ho).1]
    unfold zref
    rw [hf2, (znewM_in e ho).2.2.2]
    intro q hq
    cases hq
def zadM (ad : Nat → Nat) (t n q : Nat) (r : Nat → Nat) : Nat → Nat := fun j => if j = t then q else if t ≤ j ∧ j < t + 1 + n then r (j - (t + 1)) else ad j
theorem zV_mna {l : Launch} {g : Bool × Nat} {md : Nat} {M : zM} {X : zX} {bc bs pc co ci idx : Nat} {ty : FieldType} {x y : Int32} {L : List (Option zV)} {st : List zV} {h : zH} {P : zF → Prop} (hd : decode M.2.1 pc = .ok (.multianewarray idx 2, 4)) (hco : zrow co = true) (hci : zrow ci = true) (hto : zel co = .array ty) (hti : zel ci = ty) (hty : ty = .int ∨ ty = .long)
    (hw : Cond.classLink M.1.cls idx ("[" ++ (FieldType.array ty).toString) ∈ zW) (hw2 : Cond.arrayClass ty ∈ zW) (hn : ¬ x < 0) (hn2 : ¬ y < 0) (hN : x.toNatClampNeg = zN co) (hN2 : y.toNatClampNeg = zN ci) (hsz : zN co ≤ 10000) (hsz2 : zN ci ≤ 10000) (hT : ztop h + 1 + zN co ≤ zSO) (hg : g.1 = false) (hf1 : ∀ o k, zstm md co o k = none) (hf2 : ∀ o k, zstm md ci o k = none)
    (k : zVV l g md M X bc bs (pc + 4, L, zr (some (co, ztop h)) :: st, znewM h co ci (zN co)) P) : zVV l g md M X (bc + (1 + zN co)) (bs + (zN co + zN co * zN ci)) (pc, L, zi y :: zi x :: st, h) P := by
  intro p e R s m args below meth cd D cA ad0 A Q hC hf hl ad H locs ls cells slots ha hG hc hs hF
  obtain ⟨⟨hP, hD, hR, hTT⟩, g2, g3, g4, g5, g6⟩ := hG
  obtain ⟨hx, hb, hr, hml, hown, hts, hlk, htb, hnm, hK, hE, hA, -⟩ := id hC
  obtain ⟨-, -, -, -, -, -, -, -, -, -, hAr, -⟩ := hE
  have hAO : va_AOA ty s := by
    rcases hty with e | e
    · rw [e]; exact hAr.2.2.1
    · rw [e]; exact hAr.2.2.2
  obtain ⟨z1, z2, z3⟩ := zaty_ok hco
  obtain ⟨y1, y2, y3⟩ := zaty_ok hci
  have w2 := (hK.2 co _ (ztys_get (cA := cA) z2)).2
  have v2 := (hK.2 ci _ (ztys_get (cA := cA) y2)).2
  rw [hto] at w2
  rw [hti] at v2
  have hcy : s.vm.findClass (FieldType.array ty).toString = some (cA ci) := by
    rcases hty with e | e <;> subst e <;> exact v2
  have ec : zty co 0 = 2 := by
    rcases z3 with ⟨e1, e2⟩ | ⟨e1, e2⟩ | ⟨e1, e2⟩ | ⟨e1, e2⟩ | ⟨⟨n, e1⟩, e2⟩ | ⟨⟨n, e1⟩, e2⟩ <;> first | exact e2 | (rw [hto] at e1; cases e1)
  -- the rows' cell
  have hz9 : ∃ z : vp_A, (∀ c : ClassId, Jvm.Free.Multi.innerC c (zN ci) (defaultValue ty) = vp_cell c z) ∧ ∀ (ad' : Nat → Nat) (j : Nat), ztop h < j → j < ztop h + 1 + zN co → zent md cA ad' (znewM h co ci (zN co)) ci j = .inl (cA ci, z) := by
    rcases hty with e | e
    · refine ⟨(zN ci, .inl (fun _ => 0)), fun c => ?_, fun ad' j h1 h2 => ?_⟩
      · rw [e, vp_cell_i]
        exact arrV_new _ _ _
      · have e2 : zty ci 0 = 0 := by
          rcases y3 with ⟨e1, e2⟩ | ⟨e1, e2⟩ | ⟨e1, e2⟩ | ⟨e1, e2⟩ | ⟨⟨n, e1⟩, e2⟩ | ⟨⟨n, e1⟩, e2⟩ <;> first | exact e2 | (rw [hti, e] at e1; cases e1)
        rw [zent_row y1, e2, (znewM_in h1 h2).2.1]
        rfl
    · refine ⟨(zN ci, .inr (.inl (fun _ => 0))), fun c => ?_, fun ad' j h1 h2 => ?_⟩
      · rw [e, vp_cell_l]
        exact arrV_new _ _ _
      · have e2 : zty ci 0 = 1 := by
          rcases y3 with ⟨e1, e2⟩ | ⟨e1, e2⟩ | ⟨e1, e2⟩ | ⟨e1, e2⟩ | ⟨⟨n, e1⟩, e2⟩ | ⟨⟨n, e1⟩, e2⟩ <;> first | exact e2 | (rw [hti, e] at e1; cases e1)
        rw [zent_row y1, e2, (znewM_in h1 h2).2.2.1]
        rfl
  obtain ⟨z, hz, hzr⟩ := hz9
  have hb8 : componentBytes ty ≤ 8 := by rcases hty with e | e <;> rw [e] <;> decide
  have hb9 : zN ci * componentBytes ty ≤ 536870912 := Nat.le_trans (Nat.mul_le_mul hsz2 hb8) (by decide)
  refine va_mna (X := zws md cA ad h) (L := []) (f := fun _ => .inl (0, 0, .inl fun _ => 0)) (N' := zN co) (K' := zN ci) (z := z) hx hb hown (hts _ hw) hAO (hts _ hw2) hcy hK (by rw [show va_pl [] (fun _ : Nat => (.inl (0, 0, .inl fun _ => 0) : va_E)) = [] from rfl, List.append_nil]; exact hP) (by rw [show va_pl [] (fun _ : Nat => (.inl (0, 0, .inl fun _ => 0) : va_E)) = [] from rfl, List.append_nil]; exact hD) g2 hA hn hn2 hN hN2 (by omega) hb9 (by omega) (by rcases hty with e | e <;> rw [e] <;> rfl) (by rcases hty with e | e <;> rw [e] <;> rfl) (by omega) (by omega) hz hd (fun q r cA' H1 hri hrl qK q1 q2 q3 => ?_)
  have w1 := (qK.2 128 (cA', .array ty) (by rw [List.getElem?_append_right (by simp [ztys])]; simp [ztys])).2
  have hcc : cA' = cA co := Option.some.inj (w1.symm.trans w2)
  subst hcc
  have hag : zag (ztop h) ad (zadM ad (ztop h) (zN co) q r) := by
    intro o ho
    unfold zadM
    rw [if_neg (by omega), if_neg (by omega)]
  have at0 : zadM ad (ztop h) (zN co) q r (ztop h) = q := if_pos rfl
  have atr : ∀ i, i < zN co → zadM ad (ztop h) (zN co) q r (ztop h + 1 + i) = r i := by
    intro i hi
    unfold zadM
    rw [if_neg (by omega), if_pos (by omega)]
    congr 1
    omega
  have hlist : zws md cA (zadM ad (ztop h) (zN co) q r) (znewM h co ci (zN co)) = (zws md cA ad h ++ [(q, .inl (cA co, zN co, .inr (.inr (.inr (.inr (fun i => if i < zN co then some (r i) else none))))))]) ++ va_pl ([] ++ (List.range (zN co)).map r) (vr_up (fun _ => .inl (0, 0, .inl fun _ => 0)) ((List.range (zN co)).map r) (.inl (cA ci, z))) := by
    apply List.ext_getElem?
    intro j
    rcases Nat.lt_trichotomy j (ztop h) with e | e | e
    · rw [zws_more hR hag (by show ztop h ≤ ztop h + 1 + zN co; omega) znewM_old.1 znewM_old.2 j e, List.getElem?_append_left (by rw [List.length_append, zws_len]; omega), List.getElem?_append_left (by rw [zws_len]; exact e)]
    · subst e
      rw [List.getElem?_append_left (by rw [List.length_append, zws_len]; simp), List.getElem?_append_right (by rw [zws_len]; omega), zws_len, Nat.sub_self, zws_get (by show ztop h < ztop h + 1 + zN co; omega), znewM_at.1, at0, zent_row z1, ec]
      refine congrArg some (congrArg (Prod.mk q) ?_)
      refine congrArg (fun f => (Sum.inl (cA co, zN co, Sum.inr (Sum.inr (Sum.inr (Sum.inr f)))) : va_E)) (funext fun k => ?_)
      by_cases hk : k < zN co
      · rw [if_pos hk, if_pos hk]
        unfold zref
        rw [hf1]
        show zadr _ ((znewM h co ci (zN co)).2.2.1 (ztop h) k) = _
        rw [znewM_at.2]
        simp only [hk, if_true]
        show some (zadM ad (ztop h) (zN co) q r (ztop h + 1 + k)) = _
        rw [atr k hk]
      · rw [if_neg hk, if_neg hk]
    · rw [List.getElem?_append_right (by rw [List.length_append, zws_len]; simp; omega), List.length_append, zws_len]
      by_cases hj : j < ztop h + 1 + zN co
      · obtain ⟨i, rfl⟩ : ∃ i, j = ztop h + 1 + i := ⟨j - (ztop h + 1), by omega⟩
        have hi : i < zN co := by omega
        have hidx : ztop h + 1 + i - (ztop h + [(q, (Sum.inl (cA co, zN co, .inr (.inr (.inr (.inr (fun i => if i < zN co then some (r i) else none))))) : va_E))].length) = i := by simp
        rw [hidx, zws_get (by exact hj), (znewM_in e hj).1, atr i hi, hzr _ _ e hj]
        have hmem : r i ∈ (List.range (zN co)).map r := List.mem_map.mpr ⟨i, List.mem_range.mpr hi, rfl⟩
        simp only [va_pl, List.nil_append, List.getElem?_map, List.getElem?_range hi, Option.map_some]
        rw [vr_up_in hmem]
      · rw [List.getElem?_eq_none (by rw [zws_len]; show ztop h + 1 + zN co ≤ j; omega)]
        rw [List.getElem?_eq_none]
        simp [va_pl]
        omega
  rw [← hlist] at q1 q2
  have hst : zSok h st := g6.tl.tl
  have hKo := (znewM_old (h := h) (co := co) (ci := ci) (n := zN co)).1
  have hle : ztop h ≤ ztop (znewM h co ci (zN co)) := by show ztop h ≤ ztop h + 1 + zN co; omega
  have e2 : (Value.ref q :: st.map (zcv ad)) = (zr (some (co, ztop h)) :: st).map (zcv (zadM ad (ztop h) (zN co) q r)) := by
    rw [List.map_cons, zmap_ag hag hst]
    show _ = va_rf (some (zadM ad (ztop h) (zN co) q r (ztop h))) :: _
    rw [at0]
    rfl
  show W p l e R s m args below meth cd H1 locs _ _ Q (F0 m (pc + 4) ls (Value.ref q :: st.map (zcv ad)))
  rw [e2]
  refine k p e R s m args below meth cd D cA ad0 A Q hC hf hl (zadM ad (ztop h) (zN co) q r) H1 locs ls _ _ (ha.trans hag (Nat.zero_le _)) ⟨⟨q1, q2, znewM_R hf1 hf2 hR, hT⟩, q3, ?_, g4, fun v hv => zvok_new hle hKo (g5 v hv), ?_⟩ (by omega) (by omega) (fun f hf => (hF f hf).mono hag (by rw [hg]; exact ⟨hle, hKo⟩))
  · have key : ∀ (L : List (Option zV)) (b : Nat), zLok h L → zE (zadM ad (ztop h) (zN co) q r) b L = zE ad b L := by
      intro L
      induction L with
      | nil => intro b _; rfl
      | cons x r ih =>
        intro b hb
        have h9 := ih (b + 1) (fun v hv => hb v (List.mem_cons_of_mem _ hv))
        cases x with
        | none => exact h9
        | some v =>
          show (b, _) :: _ = (b, _) :: _
          rw [h9, zcv_ag hag (hb v List.mem_cons_self)]
    show lv_has ls _ (zE _ 0 L)
    rw [key L 0 g5]
    exact g3
  · refine zSok.cons ?_ (fun v hv => zvok_new hle hKo (hst v hv))
    intro q' hq'
    cases hq'
    exact Or.inl ⟨by show ztop h < ztop h + 1 + zN co; omega, znewM_at.1⟩
/-! references put into rows -/
theorem zupR {md : Nat} {cA : Nat → ClassId} {ad : Nat → Nat} {h : zH} {c o k v : Nat} {q : Nat × Nat} (hmd : ∀ o k, zstm md c o k = none) (ho : o < ztop h) (hKo : zK h o = c) (z1 : zobj c = false) (e2 : zty c 0 = 2) (hk : k < zN c) (hv : v = ad q.2) :
    (zws md cA ad h).set o (ad o, .inl (cA c, zN c, .inr (.inr (.inr (.inr (va_up (fun k => if k < zN c then zadr ad (zref md h c o k) else none) k (some v))))))) = zws md cA ad (zsR h o k (some q)) := by
  refine zws_set rfl rfl ho ?_ (fun a ha => ⟨rfl, rfl, zu_ne _ _ ha⟩)
  rw [hKo, zent_row z1, e2]
  refine congrArg (fun f => (Sum.inl (cA c, zN c, Sum.inr (Sum.inr (Sum.inr (Sum.inr f)))) : va_E)) (funext fun j => ?_)
  unfold va_up
  by_cases hj : j = k
  · subst hj
    rw [if_pos rfl, if_pos hk]
    simp only [zref, hmd]
    show some v = zadr ad (zu h.2.2.1 o j (some q) o j)
    rw [zu_eq, hv]
    rfl
  · rw [if_neg hj]
    simp only [zref, hmd]
    show (if j < zN c then zadr ad (h.2.2.1 o j) else none) = if j < zN c then zadr ad (zu h.2.2.1 o k (some q) o j) else none
    rw [zu_nek _ _ hj]
theorem zS_astS {l : Launch} {md : Nat} {M : zM} {X : zX} {pc c o c' o' : Nat} {i : Int32} {L : List (Option zV)} {st : List zV} {h : zH} (hc : zrow c = true) (hty : zel c = .object (zcn c')) (hc' : c' < 12) (hd : decode M.2.1 pc = .ok (.aastore, 1)) (hin : zb i (zN c) = true) (hmd : ∀ o k, zstm md c o k = none) :
    zStp l md M X (pc, L, zr (some (c', o')) :: zi i :: zr (some (c, o)) :: st, h) (pc + 1, L, st, zsR h o i.toNatClampNeg (some (c', o'))) := by
  intro p e R s m args below meth cd D cA ad0 A Q hC ad H locs ls cells slots ha hG hkk
  obtain ⟨⟨hP, hD, hR, hT⟩, g2, g3, g4, g5, g6⟩ := hG
  obtain ⟨hx, hb, hr, hml, hown, hts, hlk, htb, hnm, hK, -⟩ := hC
  obtain ⟨z1, z2, z3⟩ := zaty_ok hc
  obtain ⟨ho, hKo⟩ := zdyn (h := h) (q := (c, o)) (g6 _ (List.mem_cons_of_mem _ (List.mem_cons_of_mem _ List.mem_cons_self))) (by show c < 200; omega)
  obtain ⟨ho', hKo'⟩ := zdyn (h := h) (q := (c', o')) (g6 _ List.mem_cons_self) (by show c' < 200; omega)
  have e2 : zty c 0 = 2 := by
    rcases z3 with ⟨e1, e2⟩ | ⟨e1, e2⟩ | ⟨e1, e2⟩ | ⟨e1, e2⟩ | ⟨⟨n, e1⟩, e2⟩ | ⟨⟨n, e1⟩, e2⟩ <;> first | exact e2 | (rw [hty] at e1; cases e1)
  have he := zws_get (md := md) (cA := cA) (ad := ad) ho
  rw [hKo, zent_row z1, e2] at he
  have he' := zws_get (md := md) (cA := cA) (ad := ad) ho'
  rw [hKo', show zent md cA ad h c' o' = .inr (c', (List.range (zN c')).map (fun k => zfv md ad h c' o' k)) by unfold zent; rw [(zcl_ok c' hc').2]] at he'
  have ht := ztys_get (cA := cA) z2
  rw [hty] at ht
  refine va_astq (r := (zcn c', zcF c', zN c')) hx hb hK hP hD g2 o c o' c' he ht he' (zcl_ok c' hc').1 (zb_in hin) hd (fun H1 locs1 q1 q2 q3 => ?_)
  rw [zupR (q := (c', o')) hmd ho hKo z1 e2 (zb_lt hin) rfl] at q1 q2
  exact hkk H1 locs1 ls ⟨⟨q1, q2, zRok_ref hR (g6 _ List.mem_cons_self), hT⟩, q3, g3, g4, zLok_top (h := h) rfl rfl g5, zSok_top (h := h) rfl rfl g6.tl.tl.tl⟩
theorem zS_astT {l : Launch} {md : Nat} {M : zM} {X : zX} {pc c o j : Nat} {i : Int32} {L : List (Option zV)} {st : List zV} {h : zH} (hc : zrow c = true) (hty : zel c = .object "java/lang/String") (hj : j < 11) (hd : decode M.2.1 pc = .ok (.aastore, 1)) (hin : zb i (zN c) = true) (hmd : ∀ o k, zstm md c o k = none) :
    zStp l md M X (pc, L, zr (some (202, zSO + 10 + j)) :: zi i :: zr (some (c, o)) :: st, h) (pc + 1, L, st, zsR h o i.toNatClampNeg (some (202, zSO + 10 + j))) := by
  intro p e R s m args below meth cd D cA ad0 A Q hC ad H locs ls cells slots ha hG hkk
  obtain ⟨⟨hP, hD, hR, hT⟩, g2, g3, g4, g5, g6⟩ := hG
  obtain ⟨hx, hb, hr, hml, hown, hts, hlk, htb, hnm, hK, hE, -⟩ := hC
  obtain ⟨-, -, -, -, -, h6, -⟩ := hE.ag ha
  obtain ⟨z1, z2, z3⟩ := zaty_ok hc
  obtain ⟨ho, hKo⟩ := zdyn (h := h) (q := (c, o)) (g6 _ (List.mem_cons_of_mem _ (List.mem_cons_of_mem _ List.mem_cons_self))) (by show c < 200; omega)
  have e2 : zty c 0 = 2 := by
    rcases z3 with ⟨e1, e2⟩ | ⟨e1, e2⟩ | ⟨e1, e2⟩ | ⟨e1, e2⟩ | ⟨⟨n, e1⟩, e2⟩ | ⟨⟨n, e1⟩, e2⟩ <;> first | exact e2 | (rw [hty] at e1; cases e1)
  have he := zws_get (md := md) (cA := cA) (ad := ad) ho
  rw [hKo, zent_row z1, e2] at he
  have ht := ztys_get (cA := cA) z2
  rw [hty] at ht
  obtain ⟨cell, k1, k2, k3⟩ := vk_recv h6 hj g2
  have hany : va_Any "java/lang/String" s H (ad (zSO + 10 + j)) := by
    obtain ⟨kC, hkC, -⟩ := Vm.findClass_spec k3
    refine ⟨cell, k1, k2, ⟨kC, hkC⟩, fun comp hcomp => ?_⟩
    have := Option.some.inj (k3.symm.trans hcomp)
    rw [← this]
    exact va_asg _ _
  refine va_astqM hx hb hK hP hD g2 o c he ht hany (zb_in hin) hd (fun H1 locs1 q1 q2 q3 => ?_)
  rw [zupR (q := (202, zSO + 10 + j)) hmd ho hKo z1 e2 (zb_lt hin) rfl] at q1 q2
  exact hkk H1 locs1 ls ⟨⟨q1, q2, zRok_ref hR (g6 _ List.mem_cons_self), hT⟩, q3, g3, g4, zLok_top (h := h) rfl rfl g5, zSok_top (h := h) rfl rfl g6.tl.tl.tl⟩
/-! exceptions -/
def zexs : List String := ["java/lang/RuntimeException", "java/lang/Exception"]
theorem zthW {own : String} {ic k : Nat} (h : (vx_at0 own ic (zexn k) zexs).all (fun w => (decide (w ∈ lw_tbl) && goodWord w) || decide (w ∈ zNest)) = true) {s : State} {args : Array Value} (hts : ∀ w ∈ zW, w.before args s = true) (hN : ∀ w ∈ zNest, va_Nw w s) : ∀ w ∈ vx_at0 own ic (zexn k) zexs, w.before args s = true := by
  intro w hw
  have h1 := List.all_eq_true.mp h w hw
  simp only [Bool.or_eq_true, Bool.and_eq_true, decide_eq_true_eq] at h1
  rcases h1 with h1 | h1
  · exact hts w (List.mem_filter.mpr h1)
  · have h2 := zNest_ok w h1
    have h3 := hN w h1
    cases w <;> first | (cases h2; done) | exact va_Nw.use rfl h3
theorem zV_throw {l : Launch} {g : Bool × Nat} {M : zM} {X : zX} {bc bs pc ik ic k : Nat} {L : List (Option zV)} {st : List zV} {h : zH} {P : zF → Prop} (hk : k = 1 ∨ k = 2) (d0 : decode M.2.1 pc = .ok (.new ik, 3)) (d3 : decode M.2.1 (pc + 3) = .ok (.dup, 1)) (d4 : decode M.2.1 (pc + 4) = .ok (.invokespecial ic, 3)) (d7 : decode M.2.1 (pc + 7) = .ok (.athrow, 1))
    (hw1 : Cond.classLink M.1.cls ik (zexn k) ∈ zW) (hw2 : Cond.initialized (zexn k) ∈ zW) (hat : (vx_at0 M.1.cls ic (zexn k) zexs).all (fun w => (decide (w ∈ lw_tbl) && goodWord w) || decide (w ∈ zNest)) = true) (hgood : ∀ w ∈ Cond.classLink M.1.cls ik (zexn k) :: Cond.initialized (zexn k) :: vx_at0 M.1.cls ic (zexn k) zexs, vx_ot w = true)
    (hrs : (st.map zcat).sum ≤ 8) (hdp : 6 ≤ M.2.2.2.2.2) (hhh : M.2.2.2.2.1 = []) (hP9 : P (.inr k, h)) : zVV l g g.2 M X (bc + 1) (bs + 6) (pc, L, st, h) P := by
  intro p e R s m args below meth cd D cA ad0 A Q hC hf hl ad H locs ls cells slots ha hG hc hs hF
  obtain ⟨⟨hP, hD, hR, hT⟩, g2, g3, g4, g5, g6⟩ := hG
  obtain ⟨hx, hb, hr, hml, hown, hts, hlk, htb, hnm, hK, hE, hA, hst⟩ := id hC
  obtain ⟨h1, h2, -, -, -, -, -, -, hN, -⟩ := id hE
  obtain ⟨ci, hci⟩ : ∃ ci, classes[ci]? = some (zexn k, zF_X, 0) := by
    rcases hk with e | e <;> subst e
    · exact ⟨13, rfl⟩
    · exact ⟨12, rfl⟩
  have hcat : ((st.map (zcv ad)).map fun v => v.category).sum ≤ 8 := by rw [zcats]; exact hrs
  refine vx_make0 (ci := ci) (names := zexs) hx hb hst hown (by rcases hk with e | e <;> subst e <;> decide +kernel) (by decide +kernel) (hts _ hw1) (hts _ hw2) (zthW hat hts hN) hgood h1 h2 g2 (g3.1.trans hml.symm) d0 d3 d4 hK hP hD hA hci (by show 2 + 3 < _; omega) (Nat.le_trans (Nat.add_le_add_right hcat _) (by show 8 + (13 * (2 + 1) + 42) ≤ _; omega)) (by omega) (by omega) (fun q H1 q1 q2 q3 => ?_)
  refine vx_athrow hx hb d7 ?_
  have hcell := q1 (zws g.2 cA ad h).length (q, .inr (ci, [])) (by rw [List.getElem?_append_right (Nat.le_refl _), Nat.sub_self]; rfl)
  obtain ⟨r9, hr9, ce, c1, c2, c3, -⟩ := hcell
  have hfc : s.vm.findClass (zexn k) = some ce.cls := by
    rw [c2]
    exact (hK.1 ci _ hci).2.1
  have hP1 : va_P D classes (zws g.2 cA ad h) H1 := fun j x hj => q1 j x (by rw [List.getElem?_append_left (List.getElem?_eq_some_iff.mp hj).1]; exact hj)
  exact (hF _ hP9 ad H1 locs (cells + 1) (slots + 6) (pc + 7) ls zag.rfl' ⟨hP1, hD, hR, hT⟩ q3 zle.refl' (by omega) (by omega)).2 k rfl hhh q ce _ c1 c3 hfc
/-- a call in a try, of a method that throws; the catch puts a number and hands it back -/
theorem zV_catch {l : Launch} {g g' : Bool × Nat} {md : Nat} {M M' : zM} {X : zX} {bc bs mc ms pc idx n c o k slot w : Nat} {z : Int} {as rest : List zV} {L : List (Option zV)} {st : List zV} {h h' : zH} {P : zF → Prop} {pre suf : List (Nat × Nat × Nat × Nat)} {a b hp t : Nat} (hd : decode M.2.1 pc = .ok (.invokevirtual idx, 3)) (hct : zCt l g' md M' X mc ms (zr (some (c, o)) :: as) h (.inr k, h')) (hcd : zcd M M' n) (hhh : M'.2.2.2.2.1 = []) (hlk : Cond.methodLink M.1.cls idx M'.1 ∈ zW) (hin : Cond.instanceMethod M'.1 ∈ zW) (hse : Cond.selects M'.1.cls M'.1 M'.1 ∈ zW)
    (hc : c < 12) (hcn : zcn c = M'.1.cls) (hst : st = as.reverse ++ zr (some (c, o)) :: rest) (hn : as.length = n) (hrs : (rest.map zcat).sum ≤ 8) (htb : M.2.2.2.2.1 = pre ++ (a, b, hp, t) :: suf) (hpre : pre = [] ∨ (k = 2 ∧ ∀ z ∈ pre, z.2.2.2 ≠ 0 ∧ Cond.classLink M.1.cls z.2.2.2 "java/util/NoSuchElementException" ∈ zW)) (hcov : covers ⟨a, b, hp, t⟩ pc = true) (ht : t ≠ 0) (hcl : Cond.classLink M.1.cls t (zexn k) ∈ zW) (hk : k = 1 ∨ k = 2)
    (d1 : (w = 2 ∧ decode M.2.1 hp = .ok (.astore slot, 2)) ∨ (w = 1 ∧ ∃ s4 : Fin 4, s4.val = slot ∧ decode M.2.1 hp = .ok (.astore_n s4, 1))) (hsl : slot < M.2.2.1) (hz : M.2.2.2.1 = some .int)
    (d2 : decode M.2.1 (hp + w) = .ok (.iconst z, 1)) (d3 : decode M.2.1 (hp + w + 1) = .ok (.ireturn, 1)) (hP : P (.inl (some (zi (Int32.ofInt z))), h')) (hgg : g'.2 = g.2) (hst9 : g'.1 = true ∨ g.1 = false) :
    zVV l g md M X (bc + mc) (bs + ms) (pc, L, st, h) P := by
  intro p e R s m args below meth cd D cA ad0 A Q hC hf hl ad H locs ls cells slots ha hG hc1 hs1 hF
  obtain ⟨g1, g2, g3, g4, g5, g6⟩ := hG
  have hC' := hC
  obtain ⟨hx, hb, hr, hml, hown, hts, hlk2, htb2, hnm, hKK, hE, hA, -⟩ := hC'
  obtain ⟨-, -, -, -, -, -, -, -, hN, hNc, -⟩ := id hE
  have g6 : zSok h st := g6
  rw [hst] at g6
  have hso : zSok h (zr (some (c, o)) :: as) := fun v hv => g6 v (by
    rcases List.mem_cons.mp hv with e | e
    · exact List.mem_append_right _ (e ▸ List.mem_cons_self)
    · exact List.mem_append_left _ (List.mem_reverse.mpr e))
  obtain ⟨ho, hKo⟩ := zdyn (h := h) (q := (c, o)) (hso _ List.mem_cons_self) (by show c < 200; omega)
  have he := zws_get (md := md) (cA := cA) (ad := ad) ho
  rw [hKo, show zent md cA ad h c o = .inr (c, (List.range (zN c)).map (fun k => zfv md ad h c o k)) by unfold zent; rw [(zcl_ok c hc).2]] at he
  have hmm : zmw M' = Cond.code M'.1 M'.2.1 M'.2.2.1 M'.2.2.2.1 :: zW := by unfold zmw zcw; rw [hhh]
  obtain ⟨hMo, hdp, hpn⟩ := id hcd
  obtain ⟨m1, m2, m3, m4, m5⟩ := hMo
  have cw : CallW R s args M.1.cls M'.1.cls idx M'.1 M'.2.1 M'.2.2.1 M'.2.2.2.1 (zmw M') (zrm M'.2.2.2.2.2 mc ms) mc ms n :=
    ⟨callB_of n hts (zGoodW m2 zW (fun _ h => h)) hmm rfl rfl (hts _ m3) (hts _ hlk) ⟨m5.1, m5.2, hpn⟩ (zcd_room hcd hf hl mc ms), hts _ hin, hts _ hse⟩
  have hcall : vx_Run p l e R s m args below meth cd H locs cells slots mc ms (F0 m pc ls (st.map (zcv ad))) (rest.map (zcv ad)) (zQc g' D cA ad A h (.inr k, h') (Value.ref (ad o) :: as.map (zcv ad)).toArray) (zXC g' D cA ad A h (.inr k, h')) A := by
    refine vx_runV (As := as.map (zcv ad)) (b := ad o) (Ts := zW) (own := M.1.cls) (cc := M.2.1) (nL := M.2.2.1) ⟨hx, hb, hml, hown, hts⟩ (hct D cA ad A) cw ⟨zPc_blind, ?_, fun U hU hW => ?_⟩ rfl (by simpa using hn) g3.1 ?_ ?_ hd ⟨by omega, by omega⟩
    · rw [← hcn]
      exact va_recv (q := (zcn c, zcF c, zN c)) hKK g1.1 (zcl_ok c hc).1 he
    · exact zPc_at hC ha g1 g2 hso U hU hW
    · show st.map (zcv ad) = _
      rw [hst]
      simp [List.map_reverse, zcv, va_rf, zadr]
    · exact lv_room (by rw [zcats]; exact hrs)
  refine zW_run (X := X) (M := M) hcall g2 (fun r ad' H1 locs1 e1 => by cases e1) ?_
  intro k' ad' H1 locs1 q ce e1 q1 q2 q3 q5 hq hcv hcl9
  cases e1
  refine vx_catch (own := M.1.cls) (name := zexn k) (E := zexn k) hown (tableOf pre) ⟨a, b, hp, t⟩ (tableOf suf) ?_ ?_ hcov ht (hts _ hcl) ?_ hq hcv hcl9 ?_
  · rw [htb2, htb]
    simp [tableOf]
  · intro z9 hz9
    rcases hpre with e | ⟨e, hp9⟩
    · rw [e] at hz9
      cases hz9
    · obtain ⟨y, hy, rfl⟩ := List.mem_map.mp hz9
      obtain ⟨y1, y2⟩ := hp9 y hy
      subst e
      exact Or.inr ⟨y1, _, hts _ y2, hNc⟩
  · have : Cond.castable (zexn k) (zexn k) ∈ zNest := by rcases hk with e | e <;> subst e <;> decide +kernel
    exact va_Nw.use rfl (hN _ this)
  · have fin : ∀ ls2 : Array Slot, W p l e R s m args below meth cd H1 locs1 (cells + mc) (slots + ms) Q (F0 m (hp + w) ls2 []) := by
      intro ls2
      refine lv_iconst hx hb d2 rfl ?_
      have q2' : zle g.1 h h' := by
        rcases hst9 with e | e
        · rw [e] at q2
          exact zle.same q2
        · rw [e]
          exact q2.weak
      rw [hgg] at q3
      exact (hF _ hP ad' H1 locs1 _ _ (hp + w + 1) ls2 q1 q3 q5 q2' (by omega) (by omega)).1 _ rfl (fun v hv => by cases hv; trivial) ⟨⟨.int, hz, rfl⟩, d3⟩
    rcases d1 with ⟨rfl, d1⟩ | ⟨rfl, s4, hs4, d1⟩
    · exact lv_astore (lv' := _) hx hb d1 g3 hsl rfl (fun ls2 _ => fin ls2)
    · exact lv_astore_n (lv' := _) hx hb d1 hs4 g3 hsl rfl (fun ls2 _ => fin ls2)
