/-! the walk to the loop, by wip/whole/pend.py -/
def gL (a b c : Option zV) : List (Option zV) := [some (zr (some (200, zSO))), a, b, c, none, none, none]
theorem law_walk {l : Launch} {X : zX} (hl : l.stackTraces = false) (hX : X.1 ≤ 3072) : zVV l (false, 2) 0 m_law X 2000 26000 (0, [some (zr (some (200, zSO))), none, none, none, none, none, none], [], (gZi, gZl, gZr, zKf, 0)) (fun f => f.1 = .inl (some (zi 1))) := by
  obtain ⟨x, hx, x1, x2, x3⟩ := start_c
  obtain ⟨y, hy, y1, y2, Ly, y3, y4⟩ := start_r x1 x2 x3
  have f0 : zfr gZi gZl gZr 0 := fun a _ => ⟨rfl, rfl, rfl⟩
  have f1 := zfr.le f0 (Nat.le_succ _)
  have f2 := zfr_fm (h := (zI_Main gZi, gZl, zR9_Main gZr, zKf, 333)) (e_init_Main f1) x2 (fun a k ha => by
    cases hz : zin [(74, 136, 0, 9999), (137, 137, 4, 4), (155, 156, 0, 9999), (0, 0, 9, 9)] a k
    · rfl
    · unfold zin at hz
      simp only [List.any_cons, List.any_nil, Bool.or_false, Bool.or_eq_true, Bool.and_eq_true, Nat.ble_eq] at hz
      rcases hz with hz | hz | hz | hz <;> omega)
  obtain ⟨xi, xl, xt⟩ := x
  cases (show xt = (zR9_Main gZr, zKf, 333) from x1)
  have f3 := zfr.le f2 (Nat.le_succ _)
  have f4 := zfr_fm (h := (zI_Mod xi, xl, zR9_Mod (zR9_Main gZr), zKf, 380)) (e_init_Mod f3) y3 y4
  obtain ⟨yi, yl, yt⟩ := y
  cases (show yt = (zR9_Mod (zR9_Main gZr), zKf, 380) from y1)
  refine zH_new (c := 0) we_0 we_1 we_2 (by decide +kernel) (by decide) (by decide) rfl (fun _ _ => rfl) f0 (by decide +kernel) (bc' := 1999) (bs' := 25989) (by decide) (by decide) ?_
  refine zH_run t_Law [(.dup, 0, 0)] (4, gL none none none, [zr (some (0, 0)), zr (some (0, 0))], (gZi, gZl, gZr, zKf, 1)) (by decide +kernel) rfl ?_
  refine zH_callI (M' := m_init_Main) (n := 0) (idx := 70) we_3 we_4 (c_init_Main hl f1 gset_Main hx) (by decide +kernel) ⟨ok_init_Main, by decide, by decide +kernel⟩ rfl rfl rfl (Nat.le_of_ble_eq_true rfl) (Or.inr rfl) (bc' := 1667) (bs' := 20088) (by decide) (by decide) ?_
  refine zH_run t_Law [(.astore_n 1, 0, 0)] (8, gL (some (zr (some (0, 0)))) none none, [], (xi, xl, zR9_Main gZr, zKf, 333)) (by decide +kernel) rfl ?_
  refine zV_mode (md' := 1) (fun o ho k _ _ => gmode ho) ?_
  refine zH_new (c := 11) we_5 we_6 we_7 (by decide +kernel) (by decide) (by decide) rfl (fun _ _ => rfl) f2 (by decide +kernel) (bc' := 1666) (bs' := 20024) (by decide) (by decide) ?_
  refine zH_run t_Law [(.dup, 0, 0)] (12, gL (some (zr (some (0, 0)))) none none, [zr (some (11, 333)), zr (some (11, 333))], (xi, xl, zR9_Main gZr, zKf, 334)) (by decide +kernel) rfl ?_
  refine zH_callI (M' := m_init_Mod) (n := 0) (idx := 73) we_8 we_9 (c_init_Mod hl f3 gset_Mod hy) (by decide +kernel) ⟨ok_init_Mod, by decide, by decide +kernel⟩ rfl rfl rfl (Nat.le_of_ble_eq_true rfl) (Or.inr rfl) (bc' := 1620) (bs' := 10078) (by decide) (by decide) ?_
  refine zH_run t_Law [(.astore_n 2, 0, 0), (.iconst 1, 0, 0)] (17, gL (some (zr (some (0, 0)))) (some (zr (some (11, 333)))) none, [zi 1], (yi, yl, zR9_Mod (zR9_Main gZr), zKf, 380)) (by decide +kernel) rfl ?_
  refine zH_newa (c := 106) (at9 := .long) we_10 (by decide +kernel) (by decide +kernel) (by decide +kernel) (by decide +kernel) (by decide) (by decide +kernel) (by decide +kernel) (by decide) rfl (fun _ _ => rfl) f4 (by decide +kernel) (bc' := 1619) (bs' := 10077) (by decide) (by decide) ?_
  refine zH_run t_Law [(.astore_n 3, 0, 0), (.iconst 0, 0, 0), (.istore 4, 0, 0)] (23, zLlaw (Int32.ofNat (6 * 0)), [], (yi, yl, zR9_Mod (zR9_Main gZr), zKf, 381)) (by decide +kernel) rfl ?_
  exact zV_soft (zV_mono (by omega) (by omega) (law_loop hl (Inv := yInv) hX (fun h j hi hj => law_step hi hX hj) (fun h j _ h1 h2 => law_end hX h1 h2) (X.1 / 6) 0 _ (by omega) y2))
