/-! ===== the law's loop, out of one turn ===== -/
theorem zSlaw : ∀ j, j < 512 → Int32.ofNat (6 * j) + 6 = Int32.ofNat (6 * (j + 1)) := by decide +kernel
def zLlaw (i : Int32) : List (Option zV) := [some (zr (some (200, zSO))), some (zr (some (0, 0))), some (zr (some (11, 333))), some (zr (some (106, 380))), some (zi i), none, none]
/-- a turn, and what comes behind it, each with its own room -/
theorem zV_turn {l : Launch} {M : zM} {X : zX} {bc bs bc' bs' : Nat} {α : Type} {e : Option α} {c c' : zC} {K : α → zC ⊕ zF} {P : zF → Prop} {x : α} (k : zGl l M X bc bs e c K) (he : e = some x) (hK : K x = .inl c') (k2 : zVV l (true, 2) 2 M X bc' bs' c' P) : zVV l (true, 2) 2 M X (bc' + bc) (bs' + bs) c P :=
  k x he P bc' bs' (by rw [hK]; exact k2)
/-- the law's loop comes to its end with true, if each turn keeps Inv -/
theorem law_loop {l : Launch} {X : zX} (hl : l.stackTraces = false) {Inv : zH → Prop} (hX : X.1 ≤ 3072) (hstep : ∀ h j, Inv h → 6 * j + 6 ≤ X.1 → ∃ h', f_law X h (Int32.ofNat (6 * j)) = some (.inl (Int32.ofNat (6 * j) + 6, h')) ∧ Inv h') (hend : ∀ h j, Inv h → 6 * j ≤ X.1 → X.1 < 6 * j + 6 → f_law X h (Int32.ofNat (6 * j)) = some (.inr h)) :
    ∀ (n j : Nat) (h : zH), X.1 / 6 = j + n → Inv h → zVV l (true, 2) 2 m_law X (3 * n + 3) (18 * n + 18) (23, zLlaw (Int32.ofNat (6 * j)), [], h) (fun f => f.1 = .inl (some (zi 1)))
  | 0, j, h, hj, hi => by
    have he := hend h j hi (by omega) (by omega)
    refine zV_mono (bc' := 0 + 3) (bs' := 0 + 18) (by omega) (by omega) (k_law hl _ he _ 0 0 ?_)
    show zVV l (true, 2) 2 m_law X 0 0 (1705, [none, none, none, none, none, none, none], [], h) _
    refine zH_run t_Law [(.iconst 1, 0, 0)] (1706, [none, none, none, none, none, none, none], [zi 1], h) (by decide +kernel) rfl ?_
    exact zV_ret (g := (true, 2)) (r := some (zi 1)) (zrd_z rfl (by decide +kernel) rfl) rfl
  | n + 1, j, h, hj, hi => by
    obtain ⟨h', he, hi'⟩ := hstep h j hi (by omega)
    have ih := law_loop hl hX hstep hend n (j + 1) h' (by omega) hi'
    rw [← zSlaw j (by omega)] at ih
    exact zV_turn (c' := (23, zLlaw (Int32.ofNat (6 * j) + 6), [], h')) (k_law hl) he rfl ih
