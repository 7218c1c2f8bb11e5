/-! ===== more rules of the link ===== -/
section Link2
variable {l : Launch} {M M' : zM} {X : zX} {bc bs bc' bs' pc : Nat} {α β S Y : Type} {L : List (Option zV)} {st : List zV} {h : zH} {K : α → zC ⊕ zF}
theorem zG_mono {e : Option α} {c : zC} (h1 : bc' ≤ bc) (h2 : bs' ≤ bs) (k : zGl l M X bc' bs' e c K) : zGl l M X bc bs e c K := by
  intro x hx P xc xs hP p e R s m args below meth cd D cA ad0 A Q hC hf hl ad H locs ls cells slots ha hG hc hs hF
  exact k x hx P xc xs hP p e R s m args below meth cd D cA ad0 A Q hC hf hl ad H locs ls cells slots ha hG (by omega) (by omega) hF
theorem zG_bind2 {β' : Type} {e : Option (β ⊕ β')} {f : β → Option α} {f' : β' → Option α} {c : zC} (C : β → zC) (C' : β' → zC) (ka : zGl l M X 0 0 e c (Sum.elim (fun y => .inl (C y)) (fun y => .inl (C' y)))) (kb : ∀ y, zGl l M X 0 0 (f y) (C y) K) (kc : ∀ y, zGl l M X 0 0 (f' y) (C' y) K) : zGl l M X bc bs (e.bind (Sum.elim f f')) c K := by
  intro z hz P xc xs hP
  cases he : e with
  | none => rw [he] at hz; cases hz
  | some y =>
    rw [he] at hz
    rcases y with y | y
    · exact zV_less (ka _ he P xc xs (kb y z hz P xc xs hP))
    · exact zV_less (ka _ he P xc xs (kc y z hz P xc xs hP))
theorem zG_bind3 {β' β2 : Type} {e : Option (β ⊕ (β' ⊕ β2))} {f : β → Option α} {f' : β' → Option α} {f2 : β2 → Option α} {c : zC} (C : β → zC) (C' : β' → zC) (C2 : β2 → zC) (ka : zGl l M X 0 0 e c (Sum.elim (fun y => .inl (C y)) (Sum.elim (fun y => .inl (C' y)) (fun y => .inl (C2 y))))) (kb : ∀ y, zGl l M X 0 0 (f y) (C y) K) (kc : ∀ y, zGl l M X 0 0 (f' y) (C' y) K) (kd : ∀ y, zGl l M X 0 0 (f2 y) (C2 y) K) : zGl l M X bc bs (e.bind (Sum.elim f (Sum.elim f' f2))) c K := by
  intro z hz P xc xs hP
  cases he : e with
  | none => rw [he] at hz; cases hz
  | some y =>
    rw [he] at hz
    rcases y with y | y | y
    · exact zV_less (ka _ he P xc xs (kb y z hz P xc xs hP))
    · exact zV_less (ka _ he P xc xs (kc y z hz P xc xs hP))
    · exact zV_less (ka _ he P xc xs (kd y z hz P xc xs hP))
theorem zG_bind4 {β' β2 β3 : Type} {e : Option (β ⊕ (β' ⊕ (β2 ⊕ β3)))} {f : β → Option α} {f' : β' → Option α} {f2 : β2 → Option α} {f3 : β3 → Option α} {c : zC} (C : β → zC) (C' : β' → zC) (C2 : β2 → zC) (C3 : β3 → zC) (ka : zGl l M X 0 0 e c (Sum.elim (fun y => .inl (C y)) (Sum.elim (fun y => .inl (C' y)) (Sum.elim (fun y => .inl (C2 y)) (fun y => .inl (C3 y)))))) (kb : ∀ y, zGl l M X 0 0 (f y) (C y) K) (kc : ∀ y, zGl l M X 0 0 (f' y) (C' y) K) (kd : ∀ y, zGl l M X 0 0 (f2 y) (C2 y) K) (ke : ∀ y, zGl l M X 0 0 (f3 y) (C3 y) K) : zGl l M X bc bs (e.bind (Sum.elim f (Sum.elim f' (Sum.elim f2 f3)))) c K := by
  intro z hz P xc xs hP
  cases he : e with
  | none => rw [he] at hz; cases hz
  | some y =>
    rw [he] at hz
    rcases y with y | y | y | y
    · exact zV_less (ka _ he P xc xs (kb y z hz P xc xs hP))
    · exact zV_less (ka _ he P xc xs (kc y z hz P xc xs hP))
    · exact zV_less (ka _ he P xc xs (kd y z hz P xc xs hP))
    · exact zV_less (ka _ he P xc xs (ke y z hz P xc xs hP))
theorem zrd_v (hr : M.2.2.2.1 = none) (hd : decode M.2.1 pc = .ok (.return_, 1)) : zrd M none pc := ⟨hr, hd⟩
theorem zrd_i {x : Int32} (hr : M.2.2.2.1 = some .int) (hd : decode M.2.1 pc = .ok (.ireturn, 1)) : zrd M (some (zi x)) pc := ⟨⟨_, hr, rfl⟩, hd⟩
theorem zrd_z {x : Int32} (hr : M.2.2.2.1 = some .boolean) (hd : decode M.2.1 pc = .ok (.ireturn, 1)) (hb : zbo x = true) : zrd M (some (zi x)) pc := ⟨⟨_, hr, zbo_n hb⟩, hd⟩
theorem zrd_l {x : Int64} (hr : M.2.2.2.1 = some .long) (hd : decode M.2.1 pc = .ok (.lreturn, 1)) : zrd M (some (zl x)) pc := ⟨hr, hd⟩
theorem zrd_r {x : Option (Nat × Nat)} {n : String} (hr : M.2.2.2.1 = some (.object n)) (hd : decode M.2.1 pc = .ok (.areturn, 1)) : zrd M (some (zr x)) pc := ⟨⟨_, hr, Or.inl ⟨n, rfl⟩⟩, hd⟩
theorem zG_aldc {e : Option α} {c o : Nat} {i : Int32} {v : zV} (hc : zrow c = true) (hd : decode M.2.1 pc = .ok (zald (zel c), 1)) (hn : zb i (zN c) = true) (hv : zgv 2 h c o i.toNatClampNeg = v) (k : zGl l M X bc bs e (pc + 1, L, v :: st, h) K) : zGl l M X bc bs e (pc, L, zi i :: zr (some (c, o)) :: st, h) K := by
  subst hv
  exact zG_st (zS_ald hc hd hn) zle.refl' k
theorem zG_astc {e : Option α} {c o : Nat} {i : Int32} {v : zV} {h' : zH} (hc : zrow c = true) (hd : decode M.2.1 pc = .ok (zast (zel c), 1)) (hn : zb i (zN c) = true) (hp : zaput h c o i.toNatClampNeg v = some h') (k : zGl l M X bc bs e (pc + 1, L, st, h') K) : zGl l M X bc bs e (pc, L, v :: zi i :: zr (some (c, o)) :: st, h) K := by
  refine zG_st (zS_ast hc hd hn hp) ?_ k
  unfold zaput at hp
  split at hp <;> first | (cases hp; done) | (cases hp; exact zle.same rfl)
theorem zG_iremc {e : Option α} {x y : Int32} (hd : decode M.2.1 pc = .ok (.irem, 1)) (hy : ¬ y = 0) (k : zGl l M X bc bs e (pc + 1, L, zi (zrem x y) :: st, h) K) : zGl l M X bc bs e (pc, L, zi y :: zi x :: st, h) K := zG_st (zS_irem hd hy) zle.refl' k
theorem zG_idivc {e : Option α} {x y : Int32} (hd : decode M.2.1 pc = .ok (.idiv, 1)) (hy : ¬ y = 0) (k : zGl l M X bc bs e (pc + 1, L, zi (x / y) :: st, h) K) : zGl l M X bc bs e (pc, L, zi y :: zi x :: st, h) K := zG_st (zS_idiv hd hy) zle.refl' k
theorem zG_ldc {e : Option α} {idx : Nat} {v : Int32} (hd : decode M.2.1 pc = .ok (.ldc idx, 2)) (hw : Cond.constant M.1.cls idx v ∈ zW) (k : zGl l M X bc bs e (pc + 2, L, zi v :: st, h) K) : zGl l M X bc bs e (pc, L, st, h) K := zG_st (zS_ldc hd hw) zle.refl' k
theorem zG_ldcw {e : Option α} {idx : Nat} {v : Int32} (hd : decode M.2.1 pc = .ok (.ldc_w idx, 3)) (hw : Cond.constant M.1.cls idx v ∈ zW) (k : zGl l M X bc bs e (pc + 3, L, zi v :: st, h) K) : zGl l M X bc bs e (pc, L, st, h) K := zG_st (zS_ldcw hd hw) zle.refl' k
theorem zG_ldc2 {e : Option α} {idx : Nat} {v : Int64} (hd : decode M.2.1 pc = .ok (.ldc2_w idx, 3)) (hw : Cond.constantLong M.1.cls idx v ∈ zW) (k : zGl l M X bc bs e (pc + 3, L, zl v :: st, h) K) : zGl l M X bc bs e (pc, L, st, h) K := zG_st (zS_ldc2 hd hw) zle.refl' k
theorem zG_ldS {e : Option α} {i n : Nat} (hM : M.1.cls = "ScanPackerModel") (hi : i < 11) (hn : (zstr.getD i (0, "")).1 = n) (hd : decode M.2.1 pc = .ok (.ldc n, 2)) (k : zGl l M X bc bs e (pc + 2, L, zr (some (202, zSO + 10 + i)) :: st, h) K) : zGl l M X bc bs e (pc, L, st, h) K := by
  subst hn
  exact zG_st (zS_ldS hM hi hd) zle.refl' k
theorem zG_gsR {e : Option α} {idx : Nat} (hw : Cond.fieldLink M.1.cls idx "ScanPacker$Catalog" "ROWS_OF_INPUT" "[J" ∈ zW) (hd : decode M.2.1 pc = .ok (.getstatic idx, 3)) (k : zGl l M X bc bs e (pc + 3, L, zr (some (201, zSO + 1)) :: st, h) K) : zGl l M X bc bs e (pc, L, st, h) K := zG_st (zS_gsR hw hd) zle.refl' k
theorem zG_ldR {e : Option α} {i : Int32} (hd : decode M.2.1 pc = .ok (.laload, 1)) (k : zb i 6 = true → zGl l M X bc bs e (pc + 1, L, zl (zrows i.toNatClampNeg) :: st, h) K) : zGl l M X bc bs (zg (zb i 6) e) (pc, L, zi i :: zr (some (201, zSO + 1)) :: st, h) K := by
  intro x hx P xc xs hP
  obtain ⟨h1, h2⟩ := zg_t hx
  exact zV_st (zS_ldR hd h1) zle.refl' (k h1 x h2 P xc xs hP)
theorem zG_tin {e : Option α} {k : Int32} {x : Int32} {dflt lo hi off : Int} {offs : Array Int} {len tgt : Nat} (hx : x = k) (hd : decode M.2.1 pc = .ok (.tableswitch dflt lo hi offs, len)) (hc : (decide (¬ k.toInt < lo) && decide (¬ hi < k.toInt) && decide (offs[(k.toInt - lo).toNat]? = some off) && decide ((pc : Int) + off = (tgt : Int))) = true) (kk : zGl l M X bc bs e (tgt, L, st, h) K) : zGl l M X bc bs e (pc, L, zi x :: st, h) K := by
  subst hx
  simp only [Bool.and_eq_true, decide_eq_true_eq] at hc
  obtain ⟨⟨⟨h1, h2⟩, h3⟩, h4⟩ := hc
  exact zG_st (zS_tin hd h1 h2 h3 h4) zle.refl' kk
theorem zne {x k : Int32} (h : ¬ x = k) : x.toInt ≠ k.toInt := fun q => h (Int32.toInt_inj.mp q)
theorem zG_tout {e : Option α} {x : Int32} {dflt lo hi : Int} {offs : Array Int} {len tgt : Nat} (hx : x.toInt < lo ∨ hi < x.toInt) (hd : decode M.2.1 pc = .ok (.tableswitch dflt lo hi offs, len)) (hc : (pc : Int) + dflt = (tgt : Int)) (kk : zGl l M X bc bs e (tgt, L, st, h) K) : zGl l M X bc bs e (pc, L, zi x :: st, h) K :=
  zG_st (zS_tout hd hx hc) zle.refl' kk
theorem zG_lsw {e : Option α} {x : Int32} {dflt off : Int} {ps : Array (Int × Int)} {len tgt : Nat} (hd : decode M.2.1 pc = .ok (.lookupswitch dflt ps, len)) (hp : (ps.toList.zip (ps.toList.drop 1)).all (fun (a, next) => a.1 < next.1) = true) (ho : Op.lookupswitch.offset ps.toList dflt x.toInt = off) (ht : (pc : Int) + off = (tgt : Int)) (kk : zGl l M X bc bs e (tgt, L, st, h) K) : zGl l M X bc bs e (pc, L, zi x :: st, h) K :=
  zG_st (zS_lsw hd hp ho ht) zle.refl' kk
theorem zG_putb {e : Option α} {c o k idx : Nat} {x : Int32} (hd : decode M.2.1 pc = .ok (.putfield idx, 3)) (hc : c < 12) (hk : k < zN c) (hw : Cond.fieldLink M.1.cls idx (zcn c) (zcF c k).2.1 (zcF c k).2.2.1 ∈ zW) (hf : (zcF c k).2.2.2 = false) (ht : zty c k = 3) (hb : zbo x = true) (kk : zGl l M X bc bs e (pc + 3, L, st, zsI h o k x) K) : zGl l M X bc bs e (pc, L, zi x :: zr (some (c, o)) :: st, h) K := by
  have hp : zput 2 h c o k (zi x) = some (zsI h o k x) := by
    unfold zput
    rw [ht]
    exact if_pos (of_decide_eq_true hb)
  exact zG_st (zS_put hd hc hk hw (Or.inl hf) hp) (zput_le hp) kk
end Link2
/-- field links, each with its place in the table -/
theorem zTok_of {own : String} (Q : List (Nat × Nat × Nat × Nat)) (h : Q.all (fun q => decide (lw_tbl[q.1]? = some (Cond.fieldLink own q.2.1 (zcn q.2.2.1) (zcF q.2.2.1 q.2.2.2).2.1 (zcF q.2.2.1 q.2.2.2).2.2.1)) && goodWord (Cond.fieldLink own q.2.1 (zcn q.2.2.1) (zcF q.2.2.1 q.2.2.2).2.1 (zcF q.2.2.1 q.2.2.2).2.2.1) && decide (q.2.2.1 < 12) && decide (q.2.2.2 < zN q.2.2.1)) = true) : zTok own (Q.map (·.2)) := by
  intro q hq
  obtain ⟨a, ha, rfl⟩ := List.mem_map.mp hq
  have h1 := List.all_eq_true.mp h a ha
  simp only [Bool.and_eq_true, decide_eq_true_eq] at h1
  obtain ⟨⟨⟨h2, h3⟩, h4⟩, h5⟩ := h1
  exact ⟨zW_of _ h2 h3, h4, h5⟩
