/-! ===== rows, branches, constants, what was there before ===== -/
/-- an index that lies in a row of n places -/
def zb (i : Int32) (n : Nat) : Bool := !(decide (i < 0) || decide (n ≤ i.toNatClampNeg))
theorem zb_in {i : Int32} {n : Nat} (h : zb i n = true) : vp_in i n := by
  simp only [zb, Bool.not_eq_true', Bool.or_eq_false_iff, decide_eq_false_iff_not] at h
  intro q
  rcases q with q | q
  · exact h.1 q
  · exact h.2 q
theorem zb_lt {i : Int32} {n : Nat} (h : zb i n = true) : i.toNatClampNeg < n := Nat.not_le.mp fun q => zb_in h (Or.inr q)
def zald : FieldType → Instr
  | .int => .iaload
  | .long => .laload
  | .boolean => .baload
  | .byte => .baload
  | _ => .aaload
def zaty (c : Nat) : Bool := (!zobj c) && Nat.blt c 128 && (match zel c with
  | .int => Nat.beq (zty c 0) 0
  | .long => Nat.beq (zty c 0) 1
  | .boolean => Nat.beq (zty c 0) 3
  | .byte => Nat.beq (zty c 0) 4
  | .object _ => Nat.beq (zty c 0) 2
  | .array _ => Nat.beq (zty c 0) 2
  | _ => false)
theorem zaty_all : ∀ c, c < 128 → zrow c = true → zaty c = true := by decide +kernel
theorem zrow_lt {c : Nat} (h : zrow c = true) : c < 128 := by
  unfold zrow at h
  simp only [Bool.and_eq_true, Nat.blt_eq] at h
  omega
theorem zaty_ok {c : Nat} (h : zrow c = true) : zobj c = false ∧ c < 128 ∧ ((zel c = .int ∧ zty c 0 = 0) ∨ (zel c = .long ∧ zty c 0 = 1) ∨ (zel c = .boolean ∧ zty c 0 = 3) ∨ (zel c = .byte ∧ zty c 0 = 4) ∨ ((∃ n, zel c = .object n) ∧ zty c 0 = 2) ∨ ((∃ t, zel c = .array t) ∧ zty c 0 = 2)) := by
  have h1 := zaty_all c (zrow_lt h) h
  unfold zaty at h1
  simp only [Bool.and_eq_true, Bool.not_eq_true'] at h1
  obtain ⟨⟨h2, -⟩, h3⟩ := h1
  refine ⟨h2, zrow_lt h, ?_⟩
  cases hz : zel c <;> rw [hz] at h3
  all_goals first | (cases h3; done) | (have h3 := Nat.eq_of_beq_eq_true h3)
  · exact Or.inr (Or.inr (Or.inr (Or.inl ⟨rfl, h3⟩)))
  · exact Or.inl ⟨rfl, h3⟩
  · exact Or.inr (Or.inl ⟨rfl, h3⟩)
  · exact Or.inr (Or.inr (Or.inl ⟨rfl, h3⟩))
  · exact Or.inr (Or.inr (Or.inr (Or.inr (Or.inl ⟨⟨_, rfl⟩, h3⟩))))
  · exact Or.inr (Or.inr (Or.inr (Or.inr (Or.inr ⟨⟨_, rfl⟩, h3⟩))))
theorem zty_row {c k : Nat} (h : zobj c = false) : zty c k = zty c 0 := by
  unfold zty
  rw [h]
theorem zent_row {md : Nat} {cA : Nat → ClassId} {ad : Nat → Nat} {h : zH} {c o : Nat} (hz : zobj c = false) : zent md cA ad h c o = .inl (cA c, zN c, match zty c 0 with
    | 1 => .inr (.inl (h.2.1 o))
    | 2 => .inr (.inr (.inr (.inr (fun k => if k < zN c then zadr ad (zref md h c o k) else none))))
    | _ => .inl (h.1 o)) := by
  simp only [zent, hz]
  generalize zty c 0 = t
  match t with
  | 0 => rfl
  | 1 => rfl
  | 2 => rfl
  | n + 3 => rfl
theorem zS_ald {l : Launch} {md : Nat} {M : zM} {X : zX} {pc c o : Nat} {i : Int32} {L : List (Option zV)} {st : List zV} {h : zH} (hc : zrow c = true) (hd : decode M.2.1 pc = .ok (zald (zel c), 1)) (hin : zb i (zN c) = true) :
    zStp l md M X (pc, L, zi i :: zr (some (c, o)) :: st, h) (pc + 1, L, zgv md h c o i.toNatClampNeg :: st, h) := by
  intro p e R s m args below meth cd D cA ad0 A Q hC ad H locs ls cells slots ha hG hkk
  obtain ⟨⟨hP, hD, hR, hT⟩, g2, g3, g4, g5, g6⟩ := hG
  obtain ⟨hx, hb, hr, hml, hown, hts, hlk, htb, hnm, hK, -⟩ := hC
  obtain ⟨z1, z2, z3⟩ := zaty_ok hc
  obtain ⟨ho, hKo⟩ := zdyn (h := h) (q := (c, o)) (g6 _ (List.mem_cons_of_mem _ List.mem_cons_self)) (by show c < 200; omega)
  have he := zws_get (md := md) (cA := cA) (ad := ad) ho
  rw [hKo, zent_row z1] at he
  have ht := ztys_get (cA := cA) z2
  have hlt := zb_lt hin
  have fin := hkk H locs ls ⟨⟨hP, hD, hR, hT⟩, g2, g3, g4, g5, g6.tl.tl.cons (zgv_ok hR ho hKo hlt)⟩
  have hgv : zcv ad (zgv md h c o i.toNatClampNeg) = zfv md ad h c o i.toNatClampNeg := zgv_cv
  rw [show ((pc + 1, L, zgv md h c o i.toNatClampNeg :: st, h) : zC).2.2.1.map (zcv ad) = zfv md ad h c o i.toNatClampNeg :: st.map (zcv ad) by rw [← hgv]; rfl] at fin
  rcases z3 with ⟨e1, e2⟩ | ⟨e1, e2⟩ | ⟨e1, e2⟩ | ⟨e1, e2⟩ | ⟨⟨n, e1⟩, e2⟩ | ⟨⟨n, e1⟩, e2⟩ <;> rw [e2] at he <;> rw [e1] at ht hd
  · have : zfv md ad h c o i.toNatClampNeg = .int (h.1 o i.toNatClampNeg) := by simp only [zfv, zty_row z1, e2]
    rw [this] at fin
    exact va_iald hx hb hK hP o c he ht (zb_in hin) hd fin
  · have : zfv md ad h c o i.toNatClampNeg = .long (h.2.1 o i.toNatClampNeg) := by simp only [zfv, zty_row z1, e2]
    rw [this] at fin
    exact va_lald hx hb hK hP o c he ht (zb_in hin) hd fin
  · have : zfv md ad h c o i.toNatClampNeg = .int (h.1 o i.toNatClampNeg) := by simp only [zfv, zty_row z1, e2]
    rw [this] at fin
    exact va_zald hx hb hK hP o c he ht (zb_in hin) hd fin
  · have : zfv md ad h c o i.toNatClampNeg = .int (h.1 o i.toNatClampNeg) := by simp only [zfv, zty_row z1, e2]
    rw [this] at fin
    exact va_bald hx hb hK hP o c he ht (zb_in hin) hd fin
  · have : zfv md ad h c o i.toNatClampNeg = va_rf (zadr ad (zref md h c o i.toNatClampNeg)) := by simp only [zfv, zty_row z1, e2]
    rw [this] at fin
    refine va_aldq hx hb hK hP o c he ht (zb_in hin) hd ?_
    rw [if_pos hlt]
    exact fin
  · have : zfv md ad h c o i.toNatClampNeg = va_rf (zadr ad (zref md h c o i.toNatClampNeg)) := by simp only [zfv, zty_row z1, e2]
    rw [this] at fin
    refine W.aald (v := va_rf (zadr ad (zref md h c o i.toNatClampNeg))) (ty := .array n) hx hb (hP o _ he) ((hK.2 c _ ht).1 (zN c) (fun j => va_rf (if j < zN c then zadr ad (zref md h c o j) else none))) rfl (fun q => by cases q) ?_ ?_ rfl rfl hd fin
    · show ¬ (i < 0 ∨ (arrV _ _ _).slots.size ≤ _)
      rw [arrV_size]
      exact zb_in hin
    · show (arrV _ _ _).slots[_]? = _
      rw [arrV_read _ _ hlt]
      simp only [hlt, if_true]
def zast : FieldType → Instr
  | .int => .iastore
  | .long => .lastore
  | _ => .bastore
/-- the heap behind a store into a row of numbers -/
def zaput (h : zH) (c o k : Nat) (v : zV) : Option zH := match zel c, v with
  | .int, .inl x => some (zsI h o k x)
  | .boolean, .inl x => some (zsI h o k (x &&& 1))
  | .byte, .inl x => some (zsI h o k x.toInt8.toInt32)
  | .long, .inr (.inl x) => some (zsL h o k x)
  | _, _ => none
theorem zu_upd (f : Nat → Nat → Int32) (o k : Nat) (x : Int32) : zu f o k x o = upd (f o) k x := by
  funext b
  simp [zu, upd]
theorem zu_updL (f : Nat → Nat → Int64) (o k : Nat) (x : Int64) : zu f o k x o = vp_updL (f o) k x := by
  funext b
  simp [zu, vp_updL]
theorem zS_ast {l : Launch} {md : Nat} {M : zM} {X : zX} {pc c o : Nat} {i : Int32} {v : zV} {L : List (Option zV)} {st : List zV} {h h' : zH} (hc : zrow c = true) (hd : decode M.2.1 pc = .ok (zast (zel c), 1)) (hin : zb i (zN c) = true) (h0 : zaput h c o i.toNatClampNeg v = some h') :
    zStp l md M X (pc, L, v :: zi i :: zr (some (c, o)) :: st, h) (pc + 1, L, st, h') := by
  intro p e R s m args below meth cd D cA ad0 A Q hC ad H locs ls cells slots ha hG hkk
  obtain ⟨⟨hP, hD, hR, hT⟩, g2, g3, g4, g5, g6⟩ := hG
  obtain ⟨hx, hb, hr, hml, hown, hts, hlk, htb, hnm, hK, -⟩ := hC
  obtain ⟨z1, z2, z3⟩ := zaty_ok hc
  obtain ⟨ho, hKo⟩ := zdyn (h := h) (q := (c, o)) (g6 _ (List.mem_cons_of_mem _ (List.mem_cons_of_mem _ List.mem_cons_self))) (by show c < 200; omega)
  have he := zws_get (md := md) (cA := cA) (ad := ad) ho
  rw [hKo, zent_row z1] at he
  have ht := ztys_get (cA := cA) z2
  have hlt := zb_lt hin
  have numI : ∀ (x : Int32), zty c 0 = 0 ∨ zty c 0 = 3 ∨ zty c 0 = 4 → (zws md cA ad h).set o (ad o, .inl (cA c, zN c, .inl (upd (h.1 o) i.toNatClampNeg x))) = zws md cA ad (zsI h o i.toNatClampNeg x) := by
    intro x hty
    refine zws_set rfl rfl ho ?_ (fun a ha => ⟨zu_ne _ _ ha, rfl, rfl⟩)
    rw [hKo, zent_row z1]
    rcases hty with e | e | e <;> rw [e] <;> simp only [zsI, zu_upd]
  have finI : ∀ (x : Int32) (H1 : Heap) (locs1 : List Loc), h' = zsI h o i.toNatClampNeg x → (zty c 0 = 0 ∨ zty c 0 = 3 ∨ zty c 0 = 4) → va_P D classes ((zws md cA ad h).set o (ad o, .inl (cA c, zN c, .inl (upd (h.1 o) i.toNatClampNeg x)))) H1 → va_D A ((zws md cA ad h).set o (ad o, .inl (cA c, zN c, .inl (upd (h.1 o) i.toNatClampNeg x)))) → va_S A s.heap H1 locs1 → W p l e R s m args below meth cd H1 locs1 cells slots Q (F0 m (pc + 1) ls (st.map (zcv ad))) := by
    intro x H1 locs1 e hty q1 q2 q3
    subst e
    rw [numI x hty] at q1 q2
    exact hkk H1 locs1 ls ⟨⟨q1, q2, zRok_num rfl rfl rfl hR, hT⟩, q3, g3, g4, zLok_top rfl rfl g5, zSok_top rfl rfl g6.tl.tl.tl⟩
  unfold zaput at h0
  split at h0
  · rename_i x e1
    cases h0
    rw [e1] at ht hd
    rcases z3 with ⟨f1, e2⟩ | ⟨f1, e2⟩ | ⟨f1, e2⟩ | ⟨f1, e2⟩ | ⟨⟨n, f1⟩, e2⟩ | ⟨⟨n, f1⟩, e2⟩ <;> rw [e1] at f1 <;> first | (cases f1; done) | skip
    rw [e2] at he
    exact va_iast hx hb hK hP hD g2 o c he ht (zb_in hin) hd (fun H1 locs1 q1 q2 q3 => finI x H1 locs1 rfl (Or.inl e2) q1 q2 q3)
  · rename_i x e1
    cases h0
    rw [e1] at ht hd
    rcases z3 with ⟨f1, e2⟩ | ⟨f1, e2⟩ | ⟨f1, e2⟩ | ⟨f1, e2⟩ | ⟨⟨n, f1⟩, e2⟩ | ⟨⟨n, f1⟩, e2⟩ <;> rw [e1] at f1 <;> first | (cases f1; done) | skip
    rw [e2] at he
    exact va_zast hx hb hK hP hD g2 o c he ht (zb_in hin) hd (fun H1 locs1 q1 q2 q3 => finI (x &&& 1) H1 locs1 rfl (Or.inr (Or.inl e2)) q1 q2 q3)
  · rename_i x e1
    cases h0
    rw [e1] at ht hd
    rcases z3 with ⟨f1, e2⟩ | ⟨f1, e2⟩ | ⟨f1, e2⟩ | ⟨f1, e2⟩ | ⟨⟨n, f1⟩, e2⟩ | ⟨⟨n, f1⟩, e2⟩ <;> rw [e1] at f1 <;> first | (cases f1; done) | skip
    rw [e2] at he
    exact va_bast hx hb hK hP hD g2 o c he ht (zb_in hin) hd (fun H1 locs1 q1 q2 q3 => finI x.toInt8.toInt32 H1 locs1 rfl (Or.inr (Or.inr e2)) q1 q2 q3)
  · rename_i x e1
    cases h0
    rw [e1] at ht hd
    rcases z3 with ⟨f1, e2⟩ | ⟨f1, e2⟩ | ⟨f1, e2⟩ | ⟨f1, e2⟩ | ⟨⟨n, f1⟩, e2⟩ | ⟨⟨n, f1⟩, e2⟩ <;> rw [e1] at f1 <;> first | (cases f1; done) | skip
    rw [e2] at he
    refine va_last hx hb hK hP hD g2 o c he ht (zb_in hin) hd (fun H1 locs1 q1 q2 q3 => ?_)
    have hset : (zws md cA ad h).set o (ad o, .inl (cA c, zN c, .inr (.inl (vp_updL (h.2.1 o) i.toNatClampNeg x)))) = zws md cA ad (zsL h o i.toNatClampNeg x) := by
      refine zws_set rfl rfl ho ?_ (fun a ha => ⟨rfl, zu_ne _ _ ha, rfl⟩)
      rw [hKo, zent_row z1, e2]
      simp only [zsL, zu_updL]
    rw [hset] at q1 q2
    exact hkk H1 locs1 ls ⟨⟨q1, q2, zRok_num rfl rfl rfl hR, hT⟩, q3, g3, g4, zLok_top rfl rfl g5, zSok_top rfl rfl g6.tl.tl.tl⟩
  · cases h0
theorem zS_alen {l : Launch} {md : Nat} {M : zM} {X : zX} {pc c o : Nat} {L : List (Option zV)} {st : List zV} {h : zH} (hc : zrow c = true) (hd : decode M.2.1 pc = .ok (.arraylength, 1)) :
    zStp l md M X (pc, L, zr (some (c, o)) :: st, h) (pc + 1, L, zi (Int32.ofNat (zN c)) :: st, h) := by
  intro p e R s m args below meth cd D cA ad0 A Q hC ad H locs ls cells slots ha hG hkk
  obtain ⟨⟨hP, hD, hR, hT⟩, g2, g3, g4, g5, g6⟩ := hG
  obtain ⟨hx, hb, hr, hml, hown, hts, hlk, htb, hnm, hK, -⟩ := hC
  obtain ⟨z1, z2, z3⟩ := zaty_ok hc
  obtain ⟨ho, hKo⟩ := zdyn (h := h) (q := (c, o)) (g6 _ List.mem_cons_self) (by show c < 200; omega)
  have he := zws_get (md := md) (cA := cA) (ad := ad) ho
  rw [hKo, zent_row z1] at he
  exact va_alen hx hb hK hP o c he (ztys_get (cA := cA) z2) rfl hd (hkk H locs ls ⟨⟨hP, hD, hR, hT⟩, g2, g3, g4, g5, g6.tl.cons trivial⟩)
/-! constants -/
theorem zS_ldc {l : Launch} {md : Nat} {M : zM} {X : zX} {pc idx : Nat} {v : Int32} {L : List (Option zV)} {st : List zV} {h : zH} (hd : decode M.2.1 pc = .ok (.ldc idx, 2)) (hw : Cond.constant M.1.cls idx v ∈ zW) : zStp l md M X (pc, L, st, h) (pc + 2, L, zi v :: st, h) := by
  intro p e R s m args below meth cd D cA ad0 A Q hC ad H locs ls cells slots ha hG hkk
  obtain ⟨g1, g2, g3, g4, g5, g6⟩ := hG
  obtain ⟨hx, hb, hr, hml, hown, hts, -⟩ := hC
  exact lv_ldc hx hb hown (hts _ hw) hd (hkk H locs ls ⟨g1, g2, g3, g4, g5, g6.cons trivial⟩)
theorem zS_ldcw {l : Launch} {md : Nat} {M : zM} {X : zX} {pc idx : Nat} {v : Int32} {L : List (Option zV)} {st : List zV} {h : zH} (hd : decode M.2.1 pc = .ok (.ldc_w idx, 3)) (hw : Cond.constant M.1.cls idx v ∈ zW) : zStp l md M X (pc, L, st, h) (pc + 3, L, zi v :: st, h) := by
  intro p e R s m args below meth cd D cA ad0 A Q hC ad H locs ls cells slots ha hG hkk
  obtain ⟨g1, g2, g3, g4, g5, g6⟩ := hG
  obtain ⟨hx, hb, hr, hml, hown, hts, -⟩ := hC
  exact lv_ldcw hx hb hown (hts _ hw) hd (hkk H locs ls ⟨g1, g2, g3, g4, g5, g6.cons trivial⟩)
theorem zS_ldc2 {l : Launch} {md : Nat} {M : zM} {X : zX} {pc idx : Nat} {v : Int64} {L : List (Option zV)} {st : List zV} {h : zH} (hd : decode M.2.1 pc = .ok (.ldc2_w idx, 3)) (hw : Cond.constantLong M.1.cls idx v ∈ zW) : zStp l md M X (pc, L, st, h) (pc + 3, L, zl v :: st, h) := by
  intro p e R s m args below meth cd D cA ad0 A Q hC ad H locs ls cells slots ha hG hkk
  obtain ⟨g1, g2, g3, g4, g5, g6⟩ := hG
  obtain ⟨hx, hb, hr, hml, hown, hts, -⟩ := hC
  exact lv_ldc2 hx hb hown (hts _ hw) hd (hkk H locs ls ⟨g1, g2, g3, g4, g5, g6.cons trivial⟩)
/-! what was there before the law -/
theorem zk_sta {h : zH} {c o : Nat} (hs : zsta c o = true) : zvok h (zr (some (c, o))) := by
  intro q hq
  cases hq
  exact Or.inr hs
theorem zS_ldS {l : Launch} {md : Nat} {M : zM} {X : zX} {pc i : Nat} {L : List (Option zV)} {st : List zV} {h : zH} (hM : M.1.cls = "ScanPackerModel") (hi : i < 11) (hd : decode M.2.1 pc = .ok (.ldc (zstr.getD i (0, "")).1, 2)) : zStp l md M X (pc, L, st, h) (pc + 2, L, zr (some (202, zSO + 10 + i)) :: st, h) := by
  intro p e R s m args below meth cd D cA ad0 A Q hC ad H locs ls cells slots ha hG hkk
  obtain ⟨g1, g2, g3, g4, g5, g6⟩ := hG
  obtain ⟨hx, hb, hr, hml, hown, hts, hlk, htb, hnm, hK, hE, -⟩ := hC
  obtain ⟨-, -, -, -, -, -, h7, -⟩ := hE.ag ha
  rw [hM] at hown
  exact va_ldcS hx hb hown (h7 i hi) hd (hkk H locs ls ⟨g1, g2, g3, g4, g5, g6.cons (zk_sta (decide_eq_true (Or.inr (Or.inr (Or.inl ⟨rfl, by omega, by omega⟩)))))⟩)
theorem zS_gsR {l : Launch} {md : Nat} {M : zM} {X : zX} {pc idx : Nat} {L : List (Option zV)} {st : List zV} {h : zH} (hw : Cond.fieldLink M.1.cls idx "ScanPacker$Catalog" "ROWS_OF_INPUT" "[J" ∈ zW) (hd : decode M.2.1 pc = .ok (.getstatic idx, 3)) : zStp l md M X (pc, L, st, h) (pc + 3, L, zr (some (201, zSO + 1)) :: st, h) := by
  intro p e R s m args below meth cd D cA ad0 A Q hC ad H locs ls cells slots ha hG hkk
  obtain ⟨g1, g2, g3, g4, g5, g6⟩ := hG
  obtain ⟨hx, hb, hr, hml, hown, hts, hlk, htb, hnm, hK, hE, -⟩ := hC
  obtain ⟨-, -, -, h4, -⟩ := hE.ag ha
  exact va_gets hx hb h4 g2 hown (hts _ hw) (fun _ h9 => h9) hd (hkk H locs ls ⟨g1, g2, g3, g4, g5, g6.cons (zk_sta (decide_eq_true (Or.inr (Or.inl ⟨rfl, rfl⟩))))⟩)
theorem zk_F {h : zH} {X : zX} : zvok h (zr (zsF X)) := by
  unfold zsF
  by_cases h9 : X.2 5000 = 0
  · rw [if_pos h9]
    exact zk_sta (decide_eq_true (Or.inr (Or.inr (Or.inr (Or.inr ⟨rfl, rfl⟩)))))
  · rw [if_neg h9]
    intro q hq
    cases hq
theorem zS_gsF {l : Launch} {md : Nat} {M : zM} {X : zX} {pc idx : Nat} {L : List (Option zV)} {st : List zV} {h : zH} (hw : Cond.fieldLink M.1.cls idx "jdk/internal/util/Preconditions" "SIOOBE_FORMATTER" "Ljava/util/function/BiFunction;" ∈ zW) (hd : decode M.2.1 pc = .ok (.getstatic idx, 3)) : zStp l md M X (pc, L, st, h) (pc + 3, L, zr (zsF X) :: st, h) := by
  intro p e R s m args below meth cd D cA ad0 A Q hC ad H locs ls cells slots ha hG hkk
  obtain ⟨g1, g2, g3, g4, g5, g6⟩ := hG
  obtain ⟨hx, hb, hr, hml, hown, hts, hlk, htb, hnm, hK, hE, -⟩ := hC
  obtain ⟨-, -, -, -, -, -, -, -, -, -, -, h12⟩ := hE.ag ha
  exact va_gets hx hb h12 g2 hown (hts _ hw) (fun _ h9 => h9) hd (hkk H locs ls ⟨g1, g2, g3, g4, g5, g6.cons zk_F⟩)
theorem zS_gsC {l : Launch} {md : Nat} {M : zM} {X : zX} {pc idx : Nat} {L : List (Option zV)} {st : List zV} {h : zH} (hw : Cond.fieldLink M.1.cls idx "java/lang/String" "COMPACT_STRINGS" "Z" ∈ zW) (hd : decode M.2.1 pc = .ok (.getstatic idx, 3)) : zStp l md M X (pc, L, st, h) (pc + 3, L, zi 1 :: st, h) := by
  intro p e R s m args below meth cd D cA ad0 A Q hC ad H locs ls cells slots ha hG hkk
  obtain ⟨g1, g2, g3, g4, g5, g6⟩ := hG
  obtain ⟨hx, hb, hr, hml, hown, hts, hlk, htb, hnm, hK, hE, -⟩ := hC
  obtain ⟨-, -, h3, -⟩ := hE.ag ha
  exact va_gets hx hb h3 g2 hown (hts _ hw) (fun _ h9 => h9) hd (hkk H locs ls ⟨g1, g2, g3, g4, g5, g6.cons trivial⟩)
theorem zS_ldR {l : Launch} {md : Nat} {M : zM} {X : zX} {pc : Nat} {i : Int32} {L : List (Option zV)} {st : List zV} {h : zH} (hd : decode M.2.1 pc = .ok (.laload, 1)) (hin : zb i 6 = true) : zStp l md M X (pc, L, zi i :: zr (some (201, zSO + 1)) :: st, h) (pc + 1, L, zl (zrows i.toNatClampNeg) :: st, h) := by
  intro p e R s m args below meth cd D cA ad0 A Q hC ad H locs ls cells slots ha hG hkk
  obtain ⟨g1, g2, g3, g4, g5, g6⟩ := hG
  obtain ⟨hx, hb, hr, hml, hown, hts, hlk, htb, hnm, hK, hE, -⟩ := hC
  obtain ⟨-, -, -, -, h5, -⟩ := hE.ag ha
  exact va_tl hx hb h5 g2 (zb_in hin) rfl hd (hkk H locs ls ⟨g1, g2, g3, g4, g5, g6.tl.tl.cons trivial⟩)
theorem zS_scr {l : Launch} {md : Nat} {M : zM} {X : zX} {pc : Nat} {i : Int32} {L : List (Option zV)} {st : List zV} {h : zH} (hd : decode M.2.1 pc = .ok (.iaload, 1)) (hin : zb i X.1 = true) : zStp l md M X (pc, L, zi i :: zr (some (200, zSO)) :: st, h) (pc + 1, L, zi (X.2 i.toNatClampNeg) :: st, h) := by
  intro p e R s m args below meth cd D cA ad0 A Q hC ad H locs ls cells slots ha hG hkk
  obtain ⟨g1, g2, g3, g4, g5, g6⟩ := hG
  obtain ⟨hx, hb, hr, hml, hown, hts, hlk, htb, hnm, hK, hE, -⟩ := hC
  obtain ⟨-, -, -, -, -, -, -, h8, -⟩ := hE.ag ha
  exact va_ti hx hb h8 g2 (zb_in hin) rfl hd (hkk H locs ls ⟨g1, g2, g3, g4, g5, g6.tl.tl.cons trivial⟩)
theorem zT_len {p : Program} {l : Launch} {e : Env} {R : Room} {s : State} {m : MethodId} {args : Array Value} {below : List Frame} {meth : Method} {c : Code} {H : Heap} {locs : List Loc} {cells slots : Nat} {Q : State → Prop} {cc : ByteArray} {pc t N : Nat} {ls : Array Slot} {rest : List Value} {A : Nat → Prop} {ty : FieldType} {f : Nat → Value}
    (hx : p.tables.exec = Jvm.exec) (hb : c.code = cc) (hT : va_T ty t N f A s s.heap) (hS : va_S A s.heap H locs) (hd : decode cc pc = .ok (.arraylength, 1)) (kk : W p l e R s m args below meth c H locs cells slots Q (F0 m (pc + 1) ls (.int (Int32.ofNat N) :: rest))) : W p l e R s m args below meth c H locs cells slots Q (F0 m pc ls (.ref t :: rest)) := by
  obtain ⟨cell, h1, h2, h3, h4, h5, h6⟩ := hT.kept hS.2.1
  exact W.alen (n := Int32.ofNat N) hx hb h1 h2 h5 rfl rfl hd kk
theorem zS_scl {l : Launch} {md : Nat} {M : zM} {X : zX} {pc : Nat} {L : List (Option zV)} {st : List zV} {h : zH} (hd : decode M.2.1 pc = .ok (.arraylength, 1)) : zStp l md M X (pc, L, zr (some (200, zSO)) :: st, h) (pc + 1, L, zi (Int32.ofNat X.1) :: st, h) := by
  intro p e R s m args below meth cd D cA ad0 A Q hC ad H locs ls cells slots ha hG hkk
  obtain ⟨g1, g2, g3, g4, g5, g6⟩ := hG
  obtain ⟨hx, hb, hr, hml, hown, hts, hlk, htb, hnm, hK, hE, -⟩ := hC
  obtain ⟨-, -, -, -, -, -, -, h8, -⟩ := hE.ag ha
  exact zT_len hx hb h8 g2 hd (hkk H locs ls ⟨g1, g2, g3, g4, g5, g6.tl.cons trivial⟩)
theorem zS_strv {l : Launch} {md : Nat} {M : zM} {X : zX} {pc i idx : Nat} {L : List (Option zV)} {st : List zV} {h : zH} (hi : i < 11) (hw : Cond.fieldLink M.1.cls idx "java/lang/String" "value" "[B" ∈ zW) (hd : decode M.2.1 pc = .ok (.getfield idx, 3)) : zStp l md M X (pc, L, zr (some (202, zSO + 10 + i)) :: st, h) (pc + 3, L, zr (some (203, zSO + 30 + i)) :: st, h) := by
  intro p e R s m args below meth cd D cA ad0 A Q hC ad H locs ls cells slots ha hG hkk
  obtain ⟨g1, g2, g3, g4, g5, g6⟩ := hG
  obtain ⟨hx, hb, hr, hml, hown, hts, hlk, htb, hnm, hK, hE, -⟩ := hC
  obtain ⟨-, -, -, -, -, h6, -⟩ := hE.ag ha
  exact vk_getf hx hb (h6.1 i hi).2.2.1 g2 hown (hts _ hw) (fun _ h9 => h9) hd (hkk H locs ls ⟨g1, g2, g3, g4, g5, g6.tl.cons (zk_sta (decide_eq_true (Or.inr (Or.inr (Or.inr (Or.inl ⟨rfl, by omega, by omega⟩))))))⟩)
theorem zS_strc {l : Launch} {md : Nat} {M : zM} {X : zX} {pc i idx : Nat} {L : List (Option zV)} {st : List zV} {h : zH} (hi : i < 11) (hw : Cond.fieldLink M.1.cls idx "java/lang/String" "coder" "B" ∈ zW) (hd : decode M.2.1 pc = .ok (.getfield idx, 3)) : zStp l md M X (pc, L, zr (some (202, zSO + 10 + i)) :: st, h) (pc + 3, L, zi 0 :: st, h) := by
  intro p e R s m args below meth cd D cA ad0 A Q hC ad H locs ls cells slots ha hG hkk
  obtain ⟨g1, g2, g3, g4, g5, g6⟩ := hG
  obtain ⟨hx, hb, hr, hml, hown, hts, hlk, htb, hnm, hK, hE, -⟩ := hC
  obtain ⟨-, -, -, -, -, h6, -⟩ := hE.ag ha
  exact vk_getf hx hb (h6.1 i hi).2.1 g2 hown (hts _ hw) (fun _ h9 => h9) hd (hkk H locs ls ⟨g1, g2, g3, g4, g5, g6.tl.cons trivial⟩)
theorem zS_strl {l : Launch} {md : Nat} {M : zM} {X : zX} {pc i : Nat} {L : List (Option zV)} {st : List zV} {h : zH} (hi : i < 11) (hd : decode M.2.1 pc = .ok (.arraylength, 1)) : zStp l md M X (pc, L, zr (some (203, zSO + 30 + i)) :: st, h) (pc + 1, L, zi (Int32.ofNat (zslen.getD i 0)) :: st, h) := by
  intro p e R s m args below meth cd D cA ad0 A Q hC ad H locs ls cells slots ha hG hkk
  obtain ⟨g1, g2, g3, g4, g5, g6⟩ := hG
  obtain ⟨hx, hb, hr, hml, hown, hts, hlk, htb, hnm, hK, hE, -⟩ := hC
  obtain ⟨-, -, -, -, -, h6, -⟩ := hE.ag ha
  exact zT_len hx hb (h6.1 i hi).2.2.2 g2 hd (hkk H locs ls ⟨g1, g2, g3, g4, g5, g6.tl.cons trivial⟩)
theorem zS_strb {l : Launch} {md : Nat} {M : zM} {X : zX} {pc i : Nat} {k : Int32} {L : List (Option zV)} {st : List zV} {h : zH} (hi : i < 11) (hd : decode M.2.1 pc = .ok (.baload, 1)) (hin : zb k (zslen.getD i 0) = true) : zStp l md M X (pc, L, zi k :: zr (some (203, zSO + 30 + i)) :: st, h) (pc + 1, L, zi ((zsbyt.getD i []).getD k.toNatClampNeg 0) :: st, h) := by
  intro p e R s m args below meth cd D cA ad0 A Q hC ad H locs ls cells slots ha hG hkk
  obtain ⟨g1, g2, g3, g4, g5, g6⟩ := hG
  obtain ⟨hx, hb, hr, hml, hown, hts, hlk, htb, hnm, hK, hE, -⟩ := hC
  obtain ⟨-, -, -, -, -, h6, -⟩ := hE.ag ha
  exact va_tb hx hb (h6.1 i hi).2.2.2 g2 (zb_in hin) rfl hd (hkk H locs ls ⟨g1, g2, g3, g4, g5, g6.tl.tl.cons trivial⟩)
/-! division, branches, switches -/
theorem zS_idiv {l : Launch} {md : Nat} {M : zM} {X : zX} {pc : Nat} {x y : Int32} {L : List (Option zV)} {st : List zV} {h : zH} (hd : decode M.2.1 pc = .ok (.idiv, 1)) (hy : ¬ y = 0) : zStp l md M X (pc, L, zi y :: zi x :: st, h) (pc + 1, L, zi (x / y) :: st, h) := by
  intro p e R s m args below meth cd D cA ad0 A Q hC ad H locs ls cells slots ha hG hkk
  obtain ⟨g1, g2, g3, g4, g5, g6⟩ := hG
  exact lv_idiv hC.1 hC.2.1 hd hy (hkk H locs ls ⟨g1, g2, g3, g4, g5, g6.tl.tl.cons trivial⟩)
def zrem (x y : Int32) : Int32 := x - x / y * y
theorem zS_irem {l : Launch} {md : Nat} {M : zM} {X : zX} {pc : Nat} {x y : Int32} {L : List (Option zV)} {st : List zV} {h : zH} (hd : decode M.2.1 pc = .ok (.irem, 1)) (hy : ¬ y = 0) : zStp l md M X (pc, L, zi y :: zi x :: st, h) (pc + 1, L, zi (zrem x y) :: st, h) := by
  intro p e R s m args below meth cd D cA ad0 A Q hC ad H locs ls cells slots ha hG hkk
  obtain ⟨g1, g2, g3, g4, g5, g6⟩ := hG
  exact lv_irem hC.1 hC.2.1 hd hy (hkk H locs ls ⟨g1, g2, g3, g4, g5, g6.tl.tl.cons trivial⟩)
def zcnd : ClassFile.Cond → Int32 → Int32 → Prop
  | .eq, x, y => x = y
  | .ne, x, y => ¬ x = y
  | .lt, x, y => x < y
  | .ge, x, y => y ≤ x
  | .gt, x, y => y < x
  | .le, x, y => x ≤ y
theorem zV_if {l : Launch} {g : Bool × Nat} {md : Nat} {M : zM} {X : zX} {bc bs pc tgt : Nat} {op : ClassFile.Cond} {off : Int} {x : Int32} {L : List (Option zV)} {st : List zV} {h : zH} {P : zF → Prop} (hd : decode M.2.1 pc = .ok (.ifCond op off, 3)) (ht : (pc : Int) + off = (tgt : Int))
    (kt : zcnd op x 0 → zVV l g md M X bc bs (tgt, L, st, h) P) (kf : ¬ zcnd op x 0 → zVV l g md M X bc bs (pc + 3, L, st, h) P) : zVV l g md M X bc bs (pc, L, zi x :: st, h) P := by
  intro p e R s m args below meth cd D cA ad0 A Q hC hf hl ad H locs ls cells slots ha hG hc hs hF
  obtain ⟨g1, g2, g3, g4, g5, g6⟩ := hG
  have kt' := fun q => kt q p e R s m args below meth cd D cA ad0 A Q hC hf hl ad H locs ls cells slots ha ⟨g1, g2, g3, g4, g5, g6.tl⟩ hc hs hF
  have kf' := fun q => kf q p e R s m args below meth cd D cA ad0 A Q hC hf hl ad H locs ls cells slots ha ⟨g1, g2, g3, g4, g5, g6.tl⟩ hc hs hF
  cases op
  · exact lv_if_eq hC.1 hC.2.1 hd ht kt' kf'
  · exact lv_if_ne hC.1 hC.2.1 hd ht kt' (fun q => kf' (fun z => z q))
  · exact lv_if_lt hC.1 hC.2.1 hd ht kt' kf'
  · exact lv_if_ge hC.1 hC.2.1 hd ht kt' kf'
  · exact lv_if_gt hC.1 hC.2.1 hd ht kt' kf'
  · exact lv_if_le hC.1 hC.2.1 hd ht kt' kf'
theorem zV_icmp {l : Launch} {g : Bool × Nat} {md : Nat} {M : zM} {X : zX} {bc bs pc tgt : Nat} {op : ClassFile.Cond} {off : Int} {x y : Int32} {L : List (Option zV)} {st : List zV} {h : zH} {P : zF → Prop} (hd : decode M.2.1 pc = .ok (.if_icmp op off, 3)) (ht : (pc : Int) + off = (tgt : Int))
    (kt : zcnd op x y → zVV l g md M X bc bs (tgt, L, st, h) P) (kf : ¬ zcnd op x y → zVV l g md M X bc bs (pc + 3, L, st, h) P) : zVV l g md M X bc bs (pc, L, zi y :: zi x :: st, h) P := by
  intro p e R s m args below meth cd D cA ad0 A Q hC hf hl ad H locs ls cells slots ha hG hc hs hF
  obtain ⟨g1, g2, g3, g4, g5, g6⟩ := hG
  have kt' := fun q => kt q p e R s m args below meth cd D cA ad0 A Q hC hf hl ad H locs ls cells slots ha ⟨g1, g2, g3, g4, g5, g6.tl.tl⟩ hc hs hF
  have kf' := fun q => kf q p e R s m args below meth cd D cA ad0 A Q hC hf hl ad H locs ls cells slots ha ⟨g1, g2, g3, g4, g5, g6.tl.tl⟩ hc hs hF
  cases op
  · exact lv_icmp_eq hC.1 hC.2.1 hd ht kt' kf'
  · exact lv_icmp_ne hC.1 hC.2.1 hd ht kt' (fun q => kf' (fun z => z q))
  · exact lv_icmp_lt hC.1 hC.2.1 hd ht kt' kf'
  · exact lv_icmp_ge hC.1 hC.2.1 hd ht kt' kf'
  · exact lv_icmp_gt hC.1 hC.2.1 hd ht kt' kf'
  · exact lv_icmp_le hC.1 hC.2.1 hd ht kt' kf'
theorem zS_tin {l : Launch} {md : Nat} {M : zM} {X : zX} {pc tgt len : Nat} {dflt lo hi off : Int} {offs : Array Int} {x : Int32} {L : List (Option zV)} {st : List zV} {h : zH} (hd : decode M.2.1 pc = .ok (.tableswitch dflt lo hi offs, len)) (h1 : ¬ x.toInt < lo) (h2 : ¬ hi < x.toInt) (ho : offs[(x.toInt - lo).toNat]? = some off) (ht : (pc : Int) + off = (tgt : Int)) :
    zStp l md M X (pc, L, zi x :: st, h) (tgt, L, st, h) := by
  intro p e R s m args below meth cd D cA ad0 A Q hC ad H locs ls cells slots ha hG hkk
  obtain ⟨g1, g2, g3, g4, g5, g6⟩ := hG
  exact lv_tableIn hC.1 hC.2.1 hd h1 h2 ho ht (hkk H locs ls ⟨g1, g2, g3, g4, g5, g6.tl⟩)
theorem zS_tout {l : Launch} {md : Nat} {M : zM} {X : zX} {pc tgt len : Nat} {dflt lo hi : Int} {offs : Array Int} {x : Int32} {L : List (Option zV)} {st : List zV} {h : zH} (hd : decode M.2.1 pc = .ok (.tableswitch dflt lo hi offs, len)) (h1 : x.toInt < lo ∨ hi < x.toInt) (ht : (pc : Int) + dflt = (tgt : Int)) :
    zStp l md M X (pc, L, zi x :: st, h) (tgt, L, st, h) := by
  intro p e R s m args below meth cd D cA ad0 A Q hC ad H locs ls cells slots ha hG hkk
  obtain ⟨g1, g2, g3, g4, g5, g6⟩ := hG
  exact lv_tableOut hC.1 hC.2.1 hd h1 ht (hkk H locs ls ⟨g1, g2, g3, g4, g5, g6.tl⟩)
theorem zS_lsw {l : Launch} {md : Nat} {M : zM} {X : zX} {pc tgt len : Nat} {dflt off : Int} {ps : Array (Int × Int)} {x : Int32} {L : List (Option zV)} {st : List zV} {h : zH} (hd : decode M.2.1 pc = .ok (.lookupswitch dflt ps, len)) (hp : (ps.toList.zip (ps.toList.drop 1)).all (fun (a, next) => a.1 < next.1) = true) (ho : Op.lookupswitch.offset ps.toList dflt x.toInt = off) (ht : (pc : Int) + off = (tgt : Int)) :
    zStp l md M X (pc, L, zi x :: st, h) (tgt, L, st, h) := by
  intro p e R s m args below meth cd D cA ad0 A Q hC ad H locs ls cells slots ha hG hkk
  obtain ⟨g1, g2, g3, g4, g5, g6⟩ := hG
  exact lv_lookup hC.1 hC.2.1 hd hp ho ht (hkk H locs ls ⟨g1, g2, g3, g4, g5, g6.tl⟩)
/-! the end -/
theorem zV_ret {l : Launch} {g : Bool × Nat} {M : zM} {X : zX} {bc bs pc : Nat} {L : List (Option zV)} {r : Option zV} {h : zH} {P : zF → Prop} (hr : zrd M r pc) (hP : P (.inl r, h)) : zVV l g g.2 M X bc bs (pc, L, r.toList, h) P := by
  intro p e R s m args below meth cd D cA ad0 A Q hC hf hl ad H locs ls cells slots ha hG hc hs hF
  obtain ⟨g1, g2, g3, g4, g5, g6⟩ := hG
  exact (hF _ hP ad H locs cells slots pc ls zag.rfl' g1 g2 zle.refl' (by omega) (by omega)).1 r rfl (fun v hv => g6 v (by rw [hv]; exact List.mem_singleton.mpr rfl)) hr
