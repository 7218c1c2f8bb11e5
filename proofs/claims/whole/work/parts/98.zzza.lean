/-! ===== a turn of the law ===== -/
theorem glaw_A {e : Option (Int32 × zH)} {f : zH → Option (Int32 × zH)} {v : Int32} (q : zw e fun x => zw (f x.2) fun y => yEnd x y) : zw (e.bind fun x => (f x.2).bind fun y => (f_Mod_thrown y.2).bind fun t => if t = x.1 then (if ¬ x.1 = 0 then some (.inl (v, y.2)) else (if (y.2.2.1 380 0) = y.1.toInt64 then some (.inl (v, y.2)) else none)) else none) fun z : (Int32 × zH) ⊕ zH => ∃ h', z = .inl (v, h') ∧ yInv h' := by
  refine zw_bi q ?_
  intro x hx
  refine zw_bi hx ?_
  rintro y ⟨y1, y2, y3⟩
  have et : f_Mod_thrown y.2 = some (y.2.1 333 2) := rfl
  rw [et, Option.bind_some, if_pos y1]
  by_cases h0 : x.1 = 0
  · rw [if_neg (fun h => h h0), if_pos (y2 h0)]
    exact zw_some ⟨y.2, rfl, y3⟩
  · rw [if_pos h0]
    exact zw_some ⟨y.2, rfl, y3⟩
theorem glaw_B {e : Option (Int32 × zH)} {f : zH → Option (Int32 × zH)} {v : Int32} (q : zw e fun x => zw (f x.2) fun y => x.1 = y.1 ∧ yInv y.2) : zw (e.bind fun x => (f x.2).bind fun y => if x.1 = y.1 then some (.inl (v, y.2)) else none) fun z : (Int32 × zH) ⊕ zH => ∃ h', z = .inl (v, h') ∧ yInv h' := by
  refine zw_bi q ?_
  intro x hx
  refine zw_bi hx ?_
  rintro y ⟨y1, y2⟩
  rw [if_pos y1]
  exact zw_some ⟨y.2, rfl, y2⟩
theorem glaw_D {e : Option Int32} {f : Option (Int32 × zH)} {v : Int32} (q : zw e fun x => zw f fun y => x = y.1 ∧ yInv y.2) : zw (e.bind fun x => f.bind fun y => if x = y.1 then some (.inl (v, y.2)) else none) fun z : (Int32 × zH) ⊕ zH => ∃ h', z = .inl (v, h') ∧ yInv h' := by
  refine zw_bi q ?_
  intro x hx
  refine zw_bi hx ?_
  rintro y ⟨y1, y2⟩
  rw [if_pos y1]
  exact zw_some ⟨y.2, rfl, y2⟩
theorem glaw_C {e : Option zH} {f : zH → Option zH} {v : Int32} (q : zw e fun x => zw (f x) fun y => yInv y) : zw (e.bind fun x => (f x).bind fun y => some (.inl (v, y))) fun z : (Int32 × zH) ⊕ zH => ∃ h', z = .inl (v, h') ∧ yInv h' := by
  refine zw_bi q ?_
  intro x hx
  refine zw_bi hx ?_
  intro y y2
  exact zw_some ⟨y, rfl, y2⟩
theorem law_step {X : zX} {h : zH} {j : Nat} (hi : yInv h) (hX : X.1 ≤ 3072) (hj : 6 * j + 6 ≤ X.1) : ∃ h', f_law X h (Int32.ofNat (6 * j)) = some (.inl (Int32.ofNat (6 * j) + 6, h')) ∧ yInv h' := by
  have main : zw (f_law X h (zJ (6 * j))) fun z => ∃ h', z = .inl (zJ (6 * j) + 6, h') ∧ yInv h' := by
    have e0 : zb (zJ (6 * j)) X.1 = true := zb_t (by omega) (by omega)
    have ek : ∀ k, k < 6 → zb (zJ (6 * j) + zJ k) X.1 = true := fun k hk => by
      rw [zJ_add]
      exact zb_t (by omega) (by omega)
    have e1 : zb (zJ (6 * j) + 1) X.1 = true := ek 1 (by decide)
    have e2 : zb (zJ (6 * j) + 2) X.1 = true := ek 2 (by decide)
    have e3 : zb (zJ (6 * j) + 3) X.1 = true := ek 3 (by decide)
    have e4 : zb (zJ (6 * j) + 4) X.1 = true := ek 4 (by decide)
    have e5 : zb (zJ (6 * j) + 5) X.1 = true := ek 5 (by decide)
    have s6 : Int32.ofNat X.1 - 6 = zJ (X.1 - 6) := zJ_subl (n := 6) (show 6 ≤ X.1 by omega)
    unfold f_law
    rw [s6, if_neg (by rw [zJ_lt (by omega) (by omega)]; omega)]
    simp only [e0, e1, e2, e3, e4, e5, zg_tr]
    refine zw_if (fun c0 => ?_) (fun c0 => ?_)
    · exact glaw_B (f := fun g => f_Mod_feed g (X.2 (zJ (6 * j) + 1).toNatClampNeg) (X.2 (zJ (6 * j) + 2).toNatClampNeg) (X.2 (zJ (6 * j) + 3).toNatClampNeg) (X.2 (zJ (6 * j) + 4).toNatClampNeg) (X.2 (zJ (6 * j) + 5).toNatClampNeg)) (q_feed hi)
    refine zw_if (fun c1 => ?_) (fun c1 => ?_)
    · exact glaw_A (f := fun g => f_Mod_net g (X.2 (zJ (6 * j) + 1).toNatClampNeg)) (q_net hi)
    refine zw_if (fun c2 => ?_) (fun c2 => ?_)
    · exact glaw_D (q_fault hi)
    refine zw_if (fun c3 => ?_) (fun c3 => ?_)
    · exact glaw_A (f := fun g => f_Mod_count g (X.2 (zJ (6 * j) + 1).toNatClampNeg)) (q_count hi)
    refine zw_if (fun c4 => ?_) (fun c4 => ?_)
    · exact glaw_A (f := fun g => f_Mod_line g (X.2 (zJ (6 * j) + 1).toNatClampNeg) (X.2 (zJ (6 * j) + 2).toNatClampNeg)) (q_line hi)
    refine zw_if (fun c5 => ?_) (fun c5 => ?_)
    · exact glaw_A (f := fun g => f_Mod_letter g (X.2 (zJ (6 * j) + 1).toNatClampNeg) (X.2 (zJ (6 * j) + 2).toNatClampNeg)) (q_letter hi)
    refine zw_if (fun c6 => ?_) (fun c6 => ?_)
    · exact glaw_A (f := fun g => f_Mod_chain g (X.2 (zJ (6 * j) + 1).toNatClampNeg) (X.2 (zJ (6 * j) + 2).toNatClampNeg)) (q_chain hi)
    refine zw_if (fun c7 => ?_) (fun c7 => ?_)
    · exact glaw_A (f := fun g => f_Mod_test g (X.2 (zJ (6 * j) + 1).toNatClampNeg) (X.2 (zJ (6 * j) + 2).toNatClampNeg)) (q_test hi)
    refine zw_if (fun c8 => ?_) (fun c8 => ?_)
    · exact glaw_A (f := fun g => f_Mod_row g (X.2 (zJ (6 * j) + 1).toNatClampNeg) (X.2 (zJ (6 * j) + 2).toNatClampNeg)) (q_row hi)
    refine zw_if (fun c9 => ?_) (fun c9 => ?_)
    · exact glaw_A (f := fun g => f_Mod_cube g (X.2 (zJ (6 * j) + 1).toNatClampNeg) (X.2 (zJ (6 * j) + 2).toNatClampNeg)) (q_cube hi)
    refine zw_if (fun c10 => ?_) (fun c10 => ?_)
    · exact glaw_A (f := fun g => f_Mod_by g (X.2 (zJ (6 * j) + 1).toNatClampNeg) (X.2 (zJ (6 * j) + 2).toNatClampNeg) (X.2 (zJ (6 * j) + 3).toNatClampNeg)) (q_by hi)
    refine zw_if (fun c11 => ?_) (fun c11 => ?_)
    · exact glaw_A (f := fun g => f_Mod_program g (X.2 (zJ (6 * j) + 1).toNatClampNeg) (X.2 (zJ (6 * j) + 2).toNatClampNeg)) (q_program hi)
    refine zw_if (fun c12 => ?_) (fun c12 => ?_)
    · exact glaw_A (f := fun g => f_Mod_order g (X.2 (zJ (6 * j) + 1).toNatClampNeg) (X.2 (zJ (6 * j) + 2).toNatClampNeg)) (q_order hi)
    refine zw_if (fun c13 => ?_) (fun c13 => ?_)
    · exact glaw_A (f := fun g => f_Mod_pack g (X.2 (zJ (6 * j) + 1).toNatClampNeg)) (q_pack hi)
    refine zw_if (fun c14 => ?_) (fun c14 => ?_)
    · exact glaw_B (f := fun g => f_Mod_put g (X.2 (zJ (6 * j) + 1).toNatClampNeg) (X.2 (zJ (6 * j) + 2).toNatClampNeg)) (q_put hi)
    refine zw_if (fun c15 => ?_) (fun c15 => ?_)
    · exact glaw_B (f := fun g => f_Mod_shift g (X.2 (zJ (6 * j) + 1).toNatClampNeg)) (q_shift hi)
    refine zw_if (fun c16 => ?_) (fun c16 => ?_)
    · exact glaw_B (f := fun g => f_Mod_take g) (q_take hi)
    refine zw_if (fun c17 => ?_) (fun c17 => ?_)
    · exact glaw_B (f := fun g => f_Mod_load g (X.2 (zJ (6 * j) + 1).toNatClampNeg)) (q_load hi)
    refine zw_if (fun c18 => ?_) (fun c18 => ?_)
    · exact glaw_B (f := fun g => f_Mod_apply g) (q_apply hi)
    refine zw_if (fun c19 => ?_) (fun c19 => ?_)
    · exact glaw_A (f := fun g => f_Mod_defect g (X.2 (zJ (6 * j) + 1).toNatClampNeg)) (q_defect hi)
    refine zw_if (fun c20 => ?_) (fun c20 => ?_)
    · exact glaw_B (f := fun g => f_Mod_fill g (X.2 (zJ (6 * j) + 1).toNatClampNeg)) (q_fill hi)
    refine zw_if (fun c21 => ?_) (fun c21 => ?_)
    · exact glaw_B (f := fun g => f_Mod_pick g (X.2 (zJ (6 * j) + 1).toNatClampNeg)) (q_pick hi)
    refine zw_if (fun c22 => ?_) (fun c22 => ?_)
    · exact glaw_B (f := fun g => f_Mod_undo g) (q_undo hi)
    refine zw_if (fun c23 => ?_) (fun c23 => ?_)
    · exact glaw_B (f := fun g => f_Mod_note g (X.2 (zJ (6 * j) + 1).toNatClampNeg) (X.2 (zJ (6 * j) + 2).toNatClampNeg) (X.2 (zJ (6 * j) + 3).toNatClampNeg)) (q_note hi)
    refine zw_if (fun c24 => ?_) (fun c24 => ?_)
    · exact glaw_A (f := fun g => f_Mod_fits g (X.2 (zJ (6 * j) + 1).toNatClampNeg)) (q_fits hi)
    refine zw_if (fun c25 => ?_) (fun c25 => ?_)
    · exact glaw_A (f := fun g => f_Mod_look g (X.2 (zJ (6 * j) + 1).toNatClampNeg)) (q_look hi)
    refine zw_if (fun c26 => ?_) (fun c26 => ?_)
    · exact glaw_C (f := fun g => f_Mod_forget g) (q_forget hi)
    refine zw_if (fun c27 => ?_) (fun c27 => ?_)
    · exact glaw_A (f := fun g => f_Mod_behind g (X.2 (zJ (6 * j) + 1).toNatClampNeg)) (q_behind hi)
    refine zw_if (fun c28 => ?_) (fun c28 => ?_)
    · exact glaw_D (q_back hi)
    refine zw_if (fun c29 => ?_) (fun c29 => ?_)
    · exact glaw_A (f := fun g => f_Mod_tells g (X.2 (zJ (6 * j) + 1).toNatClampNeg)) (q_tells hi)
    refine zw_if (fun c30 => ?_) (fun c30 => ?_)
    · exact glaw_A (f := fun g => f_Mod_years g (X.2 (zJ (6 * j) + 1).toNatClampNeg) (X.2 (zJ (6 * j) + 2).toNatClampNeg) (X.2 (zJ (6 * j) + 3).toNatClampNeg)) (q_years hi)
    refine zw_if (fun c31 => ?_) (fun c31 => ?_)
    · exact glaw_C (f := fun g => f_Mod_image g) (q_image hi)
    refine zw_if (fun c32 => ?_) (fun c32 => ?_)
    · exact glaw_B (f := fun g => f_Mod_restore g) (q_restore hi)
    exact zw_some ⟨h, rfl, hi⟩
  obtain ⟨z, hz, h', rfl, hi'⟩ := main
  exact ⟨h', hz, hi'⟩
theorem gneg6 : ∀ n, n < 6 → Int32.ofNat n - 6 < zJ 0 := by decide
theorem law_end {X : zX} {h : zH} {j : Nat} (hX : X.1 ≤ 3072) (h1 : 6 * j ≤ X.1) (h2 : X.1 < 6 * j + 6) : f_law X h (Int32.ofNat (6 * j)) = some (.inr h) := by
  unfold f_law
  by_cases h6 : X.1 < 6
  · have : j = 0 := by omega
    subst this
    rw [if_pos (gneg6 _ h6)]
  · have s6 : Int32.ofNat X.1 - 6 = zJ (X.1 - 6) := zJ_subl (n := 6) (show 6 ≤ X.1 by omega)
    have : zJ (X.1 - 6) < Int32.ofNat (6 * j) := (zJ_lt (by omega) (by omega)).mpr (by omega)
    rw [s6, if_pos this]
