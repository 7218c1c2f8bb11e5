/-! ===== how many bits are set: of an int, of a long ===== -/
abbrev yL (n : Nat) : Int64 := Int64.ofNat n
section YP
variable {a b i n : Nat}
theorem yL_bv : (yL a).toBitVec = BitVec.ofNat 64 a := rfl
theorem yL_of_bv {x : Int64} (h : x.toBitVec.toNat = a) : x = yL a := by
  apply Int64.toBitVec.inj
  rw [yL_bv, ← h, BitVec.ofNat_toNat, BitVec.setWidth_eq]
theorem yL_toNat (ha : a < 18446744073709551616) : (yL a).toBitVec.toNat = a := by
  rw [yL_bv, BitVec.toNat_ofNat, Nat.mod_eq_of_lt ha]
theorem yL_add : yL a + yL b = yL (a + b) := (Int64.ofNat_add a b).symm
theorem yL_sub (h : b ≤ a) : yL a - yL b = yL (a - b) := by
  have : yL a = yL (a - b) + yL b := by rw [yL_add, Nat.sub_add_cancel h]
  rw [this]
  simp
theorem yL_and : yL a &&& yL b = yL (a &&& b) := by
  apply Int64.toBitVec.inj
  rw [Int64.toBitVec_and, yL_bv, yL_bv, yL_bv]
  apply BitVec.eq_of_getLsbD_eq
  intro j hj
  simp [hj]
theorem yL_shr (ha : a < 18446744073709551616) (hi : i < 64) : zlushr (yL a) (zJ i) = yL (a / 2 ^ i) := by
  apply yL_of_bv
  rw [zlushr_bv _ hi, BitVec.toNat_ushiftRight, yL_toNat ha, Nat.shiftRight_eq_div_pow]
theorem yJ_shr (ha : a < 4294967296) (hi : i < 32) : zushr (zJ a) (zJ i) = zJ (a / 2 ^ i) := by
  apply zJ_of_bv
  rw [zushr_bv _ hi, BitVec.toNat_ushiftRight, zJ_toNat ha, Nat.shiftRight_eq_div_pow]
theorem yL_toI : (yL a).toInt32 = zJ a := by
  apply Int32.toBitVec.inj
  show (yL a).toBitVec.signExtend 32 = _
  rw [yL_bv, zJ_bv, BitVec.signExtend_eq_setWidth_of_le _ (by decide)]
  apply BitVec.eq_of_getLsbD_eq
  intro j hj
  simp [hj, show j < 64 by omega]
end YP
theorem yhv_dv {B d : Nat} {r : List Nat} (h : d < B) : yhv B (d :: r) / B = yhv B r := by
  rw [yhv_c, Nat.add_mul_div_left _ _ (by omega), Nat.div_eq_of_lt h, Nat.zero_add]
def yza : List Nat → List Nat → List Nat
  | [], l => l
  | a :: r, [] => a :: r
  | a :: r, b :: s => (a + b) :: yza r s
theorem yhv_za {B : Nat} : ∀ l m : List Nat, yhv B l + yhv B m = yhv B (yza l m)
  | [], l => by
    rw [show yhv B [] = 0 from rfl, Nat.zero_add]
    rfl
  | a :: r, [] => rfl
  | a :: r, b :: s => by
    rw [yhv_c, yhv_c]
    show _ = (a + b) + B * yhv B (yza r s)
    rw [← yhv_za r s, Nat.mul_add]
    omega
theorem yhv_lt {B : Nat} (hB : 0 < B) : ∀ D : List Nat, (∀ d ∈ D, d < B) → yhv B D < B ^ D.length
  | [], _ => by simp [yhv]
  | d :: r, h => by
    have h1 := yhv_lt hB r (fun x hx => h x (List.mem_cons_of_mem _ hx))
    have h2 := h d List.mem_cons_self
    rw [yhv_c, List.length_cons, Nat.pow_succ, Nat.mul_comm (B ^ r.length)]
    have : B * (yhv B r + 1) ≤ B * B ^ r.length := Nat.mul_le_mul_left _ h1
    rw [Nat.mul_add] at this
    omega
theorem yhv_ltn {D : List Nat} {n M : Nat} (hl : D.length = n) (hM : Nat.ble (256 ^ n) M = true) (h : ∀ d ∈ D, d < 256) : yhv 256 D < M := by
  have h1 := yhv_lt (B := 256) (by omega) D h
  rw [hl] at h1
  exact Nat.lt_of_lt_of_le h1 (Nat.le_of_ble_eq_true hM)
theorem ypopf32 {F : List Nat} (hl : F.length = 8) (hd : ∀ d ∈ F, d ≤ 4) : ∃ x3, ((yhv 16 F + yhv 16 F / 16) &&& 252645135) = x3 ∧ yhv 16 F + yhv 16 F / 16 < 4294967296 ∧ yhv 16 F < 4294967296 ∧ x3 + x3 / 256 + (x3 + x3 / 256) / 65536 < 4294967296 ∧ (x3 + x3 / 256 + (x3 + x3 / 256) / 65536) % 64 = ysm F := by
  match F, hl with
  | [f0, f1, f2, f3, f4, f5, f6, f7], _ =>
    have h0 : f0 ≤ 4 := hd f0 (by simp)
    have h1 : f1 ≤ 4 := hd f1 (by simp)
    have h2 : f2 ≤ 4 := hd f2 (by simp)
    have h3 : f3 ≤ 4 := hd f3 (by simp)
    have h4 : f4 ≤ 4 := hd f4 (by simp)
    have h5 : f5 ≤ 4 := hd f5 (by simp)
    have h6 : f6 ≤ 4 := hd f6 (by simp)
    have h7 : f7 ≤ 4 := hd f7 (by simp)
    have e0 : yhv 16 [f0, f1, f2, f3, f4, f5, f6, f7] / 16 = yhv 16 [f1, f2, f3, f4, f5, f6, f7] := yhv_dv (by omega)
    have e1 : yhv 16 [f0, f1, f2, f3, f4, f5, f6, f7] + yhv 16 [f0, f1, f2, f3, f4, f5, f6, f7] / 16 = yhv 256 [(f0 + f1) + 16 * (f1 + f2), (f2 + f3) + 16 * (f3 + f4), (f4 + f5) + 16 * (f5 + f6), (f6 + f7) + 16 * f7] := by
      rw [e0]
      rw [yhv_za]
      simp only [yza]
      rw [yhv_prs (B := 16) _ (by simp)]
      simp only [yprs]
    have e2 : yhv 256 [(f0 + f1) + 16 * (f1 + f2), (f2 + f3) + 16 * (f3 + f4), (f4 + f5) + 16 * (f5 + f6), (f6 + f7) + 16 * f7] &&& 252645135 = yhv 256 [(f0 + f1), (f2 + f3), (f4 + f5), (f6 + f7)] := by
      have e2 := yhv_lo (w := 4) [(f0 + f1) + 16 * (f1 + f2), (f2 + f3) + 16 * (f3 + f4), (f4 + f5) + 16 * (f5 + f6), (f6 + f7) + 16 * f7] (by
        intro d hd
        show d < 256
        simp only [List.mem_cons, List.not_mem_nil, or_false] at hd
        omega)
      have e3 : yhv (2 ^ (4 + 4)) (List.replicate ([(f0 + f1) + 16 * (f1 + f2), (f2 + f3) + 16 * (f3 + f4), (f4 + f5) + 16 * (f5 + f6), (f6 + f7) + 16 * f7] : List Nat).length (2 ^ 4 - 1)) = 252645135 := rfl
      rw [e3] at e2
      refine e2.trans ?_
      simp only [List.map_cons, List.map_nil, show (2 : Nat) ^ 4 = 16 from rfl, show (2 : Nat) ^ (4 + 4) = 256 from rfl]
      simp (disch := omega) only [Nat.add_mul_mod_self_left, Nat.mod_eq_of_lt]
    rw [e1, e2]
    have k0 : f0 + f1 ≤ 8 := by omega
    have k1 : f2 + f3 ≤ 8 := by omega
    have k2 : f4 + f5 ≤ 8 := by omega
    have k3 : f6 + f7 ≤ 8 := by omega
    have hs : ysm [f0, f1, f2, f3, f4, f5, f6, f7] = (f0 + f1) + (f2 + f3) + (f4 + f5) + (f6 + f7) := by
      simp only [ysm]
      omega
    have hb : yhv 256 [(f0 + f1) + 16 * (f1 + f2), (f2 + f3) + 16 * (f3 + f4), (f4 + f5) + 16 * (f5 + f6), (f6 + f7) + 16 * f7] < 4294967296 := by
      refine yhv_ltn (n := 4) rfl rfl (fun d hd => ?_)
      simp only [List.mem_cons, List.not_mem_nil, or_false] at hd
      omega
    have hb2 : yhv 16 [f0, f1, f2, f3, f4, f5, f6, f7] < 4294967296 := by
      refine Nat.lt_of_le_of_lt (Nat.le_add_right (yhv 16 [f0, f1, f2, f3, f4, f5, f6, f7]) (yhv 16 [f0, f1, f2, f3, f4, f5, f6, f7] / 16)) ?_
      rw [e1]
      exact hb
    rw [hs]
    clear hs e0 e1 e2 hd
    generalize f0 + f1 = g0 at *
    generalize f2 + f3 = g1 at *
    generalize f4 + f5 = g2 at *
    generalize f6 + f7 = g3 at *
    have d1 : yhv 256 [g0, g1, g2, g3] / 256 = yhv 256 [g1, g2, g3] := yhv_dv (by omega)
    have d2 : yhv 256 [g0, g1, g2, g3] + yhv 256 [g1, g2, g3] = yhv 256 [g0 + g1, g1 + g2, g2 + g3, g3] := by
      rw [yhv_za]
      simp only [yza]
    have d3 : yhv 256 [g0 + g1, g1 + g2, g2 + g3, g3] / 65536 = yhv 256 [g2 + g3, g3] := by
      rw [show (65536 : Nat) = 256 * 256 from rfl, ← Nat.div_div_eq_div_mul, yhv_dv (by omega), yhv_dv (by omega)]
    have d4 : yhv 256 [g0 + g1, g1 + g2, g2 + g3, g3] + yhv 256 [g2 + g3, g3] = yhv 256 [g0 + g1 + (g2 + g3), g1 + g2 + (g3), g2 + g3, g3] := by
      rw [yhv_za]
      simp only [yza]
    refine ⟨_, rfl, hb, hb2, ?_, ?_⟩
    · rw [d1, d2, d3, d4]
      refine yhv_ltn (n := 4) rfl rfl (fun d hd => ?_)
      simp only [List.mem_cons, List.not_mem_nil, or_false] at hd
      omega
    · rw [d1, d2, d3, d4]
      rw [yhv_c]
      generalize yhv 256 _ = Y
      omega
theorem ypopf64 {F : List Nat} (hl : F.length = 16) (hd : ∀ d ∈ F, d ≤ 4) : ∃ x3, ((yhv 16 F + yhv 16 F / 16) &&& 1085102592571150095) = x3 ∧ yhv 16 F + yhv 16 F / 16 < 18446744073709551616 ∧ yhv 16 F < 18446744073709551616 ∧ x3 + x3 / 256 + (x3 + x3 / 256) / 65536 < 18446744073709551616 ∧ ((x3 + x3 / 256 + (x3 + x3 / 256) / 65536) + (x3 + x3 / 256 + (x3 + x3 / 256) / 65536) / 4294967296) % 128 = ysm F := by
  match F, hl with
  | [f0, f1, f2, f3, f4, f5, f6, f7, f8, f9, f10, f11, f12, f13, f14, f15], _ =>
    have h0 : f0 ≤ 4 := hd f0 (by simp)
    have h1 : f1 ≤ 4 := hd f1 (by simp)
    have h2 : f2 ≤ 4 := hd f2 (by simp)
    have h3 : f3 ≤ 4 := hd f3 (by simp)
    have h4 : f4 ≤ 4 := hd f4 (by simp)
    have h5 : f5 ≤ 4 := hd f5 (by simp)
    have h6 : f6 ≤ 4 := hd f6 (by simp)
    have h7 : f7 ≤ 4 := hd f7 (by simp)
    have h8 : f8 ≤ 4 := hd f8 (by simp)
    have h9 : f9 ≤ 4 := hd f9 (by simp)
    have h10 : f10 ≤ 4 := hd f10 (by simp)
    have h11 : f11 ≤ 4 := hd f11 (by simp)
    have h12 : f12 ≤ 4 := hd f12 (by simp)
    have h13 : f13 ≤ 4 := hd f13 (by simp)
    have h14 : f14 ≤ 4 := hd f14 (by simp)
    have h15 : f15 ≤ 4 := hd f15 (by simp)
    have e0 : yhv 16 [f0, f1, f2, f3, f4, f5, f6, f7, f8, f9, f10, f11, f12, f13, f14, f15] / 16 = yhv 16 [f1, f2, f3, f4, f5, f6, f7, f8, f9, f10, f11, f12, f13, f14, f15] := yhv_dv (by omega)
    have e1 : yhv 16 [f0, f1, f2, f3, f4, f5, f6, f7, f8, f9, f10, f11, f12, f13, f14, f15] + yhv 16 [f0, f1, f2, f3, f4, f5, f6, f7, f8, f9, f10, f11, f12, f13, f14, f15] / 16 = yhv 256 [(f0 + f1) + 16 * (f1 + f2), (f2 + f3) + 16 * (f3 + f4), (f4 + f5) + 16 * (f5 + f6), (f6 + f7) + 16 * (f7 + f8), (f8 + f9) + 16 * (f9 + f10), (f10 + f11) + 16 * (f11 + f12), (f12 + f13) + 16 * (f13 + f14), (f14 + f15) + 16 * f15] := by
      rw [e0]
      rw [yhv_za]
      simp only [yza]
      rw [yhv_prs (B := 16) _ (by simp)]
      simp only [yprs]
    have e2 : yhv 256 [(f0 + f1) + 16 * (f1 + f2), (f2 + f3) + 16 * (f3 + f4), (f4 + f5) + 16 * (f5 + f6), (f6 + f7) + 16 * (f7 + f8), (f8 + f9) + 16 * (f9 + f10), (f10 + f11) + 16 * (f11 + f12), (f12 + f13) + 16 * (f13 + f14), (f14 + f15) + 16 * f15] &&& 1085102592571150095 = yhv 256 [(f0 + f1), (f2 + f3), (f4 + f5), (f6 + f7), (f8 + f9), (f10 + f11), (f12 + f13), (f14 + f15)] := by
      have e2 := yhv_lo (w := 4) [(f0 + f1) + 16 * (f1 + f2), (f2 + f3) + 16 * (f3 + f4), (f4 + f5) + 16 * (f5 + f6), (f6 + f7) + 16 * (f7 + f8), (f8 + f9) + 16 * (f9 + f10), (f10 + f11) + 16 * (f11 + f12), (f12 + f13) + 16 * (f13 + f14), (f14 + f15) + 16 * f15] (by
        intro d hd
        show d < 256
        simp only [List.mem_cons, List.not_mem_nil, or_false] at hd
        omega)
      have e3 : yhv (2 ^ (4 + 4)) (List.replicate ([(f0 + f1) + 16 * (f1 + f2), (f2 + f3) + 16 * (f3 + f4), (f4 + f5) + 16 * (f5 + f6), (f6 + f7) + 16 * (f7 + f8), (f8 + f9) + 16 * (f9 + f10), (f10 + f11) + 16 * (f11 + f12), (f12 + f13) + 16 * (f13 + f14), (f14 + f15) + 16 * f15] : List Nat).length (2 ^ 4 - 1)) = 1085102592571150095 := rfl
      rw [e3] at e2
      refine e2.trans ?_
      simp only [List.map_cons, List.map_nil, show (2 : Nat) ^ 4 = 16 from rfl, show (2 : Nat) ^ (4 + 4) = 256 from rfl]
      simp (disch := omega) only [Nat.add_mul_mod_self_left, Nat.mod_eq_of_lt]
    rw [e1, e2]
    have k0 : f0 + f1 ≤ 8 := by omega
    have k1 : f2 + f3 ≤ 8 := by omega
    have k2 : f4 + f5 ≤ 8 := by omega
    have k3 : f6 + f7 ≤ 8 := by omega
    have k4 : f8 + f9 ≤ 8 := by omega
    have k5 : f10 + f11 ≤ 8 := by omega
    have k6 : f12 + f13 ≤ 8 := by omega
    have k7 : f14 + f15 ≤ 8 := by omega
    have hs : ysm [f0, f1, f2, f3, f4, f5, f6, f7, f8, f9, f10, f11, f12, f13, f14, f15] = (f0 + f1) + (f2 + f3) + (f4 + f5) + (f6 + f7) + (f8 + f9) + (f10 + f11) + (f12 + f13) + (f14 + f15) := by
      simp only [ysm]
      omega
    have hb : yhv 256 [(f0 + f1) + 16 * (f1 + f2), (f2 + f3) + 16 * (f3 + f4), (f4 + f5) + 16 * (f5 + f6), (f6 + f7) + 16 * (f7 + f8), (f8 + f9) + 16 * (f9 + f10), (f10 + f11) + 16 * (f11 + f12), (f12 + f13) + 16 * (f13 + f14), (f14 + f15) + 16 * f15] < 18446744073709551616 := by
      refine yhv_ltn (n := 8) rfl rfl (fun d hd => ?_)
      simp only [List.mem_cons, List.not_mem_nil, or_false] at hd
      omega
    have hb2 : yhv 16 [f0, f1, f2, f3, f4, f5, f6, f7, f8, f9, f10, f11, f12, f13, f14, f15] < 18446744073709551616 := by
      refine Nat.lt_of_le_of_lt (Nat.le_add_right (yhv 16 [f0, f1, f2, f3, f4, f5, f6, f7, f8, f9, f10, f11, f12, f13, f14, f15]) (yhv 16 [f0, f1, f2, f3, f4, f5, f6, f7, f8, f9, f10, f11, f12, f13, f14, f15] / 16)) ?_
      rw [e1]
      exact hb
    rw [hs]
    clear hs e0 e1 e2 hd
    generalize f0 + f1 = g0 at *
    generalize f2 + f3 = g1 at *
    generalize f4 + f5 = g2 at *
    generalize f6 + f7 = g3 at *
    generalize f8 + f9 = g4 at *
    generalize f10 + f11 = g5 at *
    generalize f12 + f13 = g6 at *
    generalize f14 + f15 = g7 at *
    have d1 : yhv 256 [g0, g1, g2, g3, g4, g5, g6, g7] / 256 = yhv 256 [g1, g2, g3, g4, g5, g6, g7] := yhv_dv (by omega)
    have d2 : yhv 256 [g0, g1, g2, g3, g4, g5, g6, g7] + yhv 256 [g1, g2, g3, g4, g5, g6, g7] = yhv 256 [g0 + g1, g1 + g2, g2 + g3, g3 + g4, g4 + g5, g5 + g6, g6 + g7, g7] := by
      rw [yhv_za]
      simp only [yza]
    have d3 : yhv 256 [g0 + g1, g1 + g2, g2 + g3, g3 + g4, g4 + g5, g5 + g6, g6 + g7, g7] / 65536 = yhv 256 [g2 + g3, g3 + g4, g4 + g5, g5 + g6, g6 + g7, g7] := by
      rw [show (65536 : Nat) = 256 * 256 from rfl, ← Nat.div_div_eq_div_mul, yhv_dv (by omega), yhv_dv (by omega)]
    have d4 : yhv 256 [g0 + g1, g1 + g2, g2 + g3, g3 + g4, g4 + g5, g5 + g6, g6 + g7, g7] + yhv 256 [g2 + g3, g3 + g4, g4 + g5, g5 + g6, g6 + g7, g7] = yhv 256 [g0 + g1 + (g2 + g3), g1 + g2 + (g3 + g4), g2 + g3 + (g4 + g5), g3 + g4 + (g5 + g6), g4 + g5 + (g6 + g7), g5 + g6 + (g7), g6 + g7, g7] := by
      rw [yhv_za]
      simp only [yza]
    refine ⟨_, rfl, hb, hb2, ?_, ?_⟩
    · rw [d1, d2, d3, d4]
      refine yhv_ltn (n := 8) rfl rfl (fun d hd => ?_)
      simp only [List.mem_cons, List.not_mem_nil, or_false] at hd
      omega
    · rw [d1, d2, d3, d4]
      have d5 : yhv 256 [g0 + g1 + (g2 + g3), g1 + g2 + (g3 + g4), g2 + g3 + (g4 + g5), g3 + g4 + (g5 + g6), g4 + g5 + (g6 + g7), g5 + g6 + (g7), g6 + g7, g7] / 4294967296 = yhv 256 [g4 + g5 + (g6 + g7), g5 + g6 + (g7), g6 + g7, g7] := by
        rw [show (4294967296 : Nat) = 256 * 256 * 256 * 256 from rfl, ← Nat.div_div_eq_div_mul, ← Nat.div_div_eq_div_mul, ← Nat.div_div_eq_div_mul, yhv_dv (by omega), yhv_dv (by omega), yhv_dv (by omega), yhv_dv (by omega)]
      rw [d5, yhv_c, yhv_c (d := g4 + g5 + (g6 + g7))]
      generalize yhv 256 _ = Y
      generalize yhv 256 _ = Z
      omega
theorem bitCount_I {x : Int32} : f_Integer_bitCount x = some (zJ (fb_ct (zBi x) 32)) := by
  have hx : x = zJ x.toBitVec.toNat := zJ_of_bv rfl
  have hn : x.toBitVec.toNat < 4294967296 := x.toBitVec.isLt
  have hb : fb_ct (zBi x) 32 = fb_ct (x.toBitVec.toNat.testBit) 32 := fb_ct_cong fun i hi => rfl
  rw [hb]
  generalize x.toBitVec.toNat = n at *
  subst hx
  obtain ⟨F, F1, F2, F3, F4, F5⟩ := ypop2 (m := 8) (n := n) (m5 := 1431655765) (m3 := 858993459) hn rfl rfl
  obtain ⟨x3, G1, G2, G3, G4, G5⟩ := ypopf32 F1 F2
  rw [show 2 * (8 + 8) = 32 from rfl] at F3
  rw [← F3, ← G5]
  unfold f_Integer_bitCount
  have e1 : zushr (zJ n) 1 &&& 1431655765 = zJ ((n / 2) &&& 1431655765) := by
    rw [show (1 : Int32) = zJ 1 from rfl, yJ_shr hn (by omega), show (1431655765 : Int32) = zJ 1431655765 from rfl, zJ_and]
  rw [e1, zJ_sub F4]
  have e2 : ∀ a, zJ a &&& 858993459 = zJ (a &&& 858993459) := fun a => by rw [show (858993459 : Int32) = zJ 858993459 from rfl, zJ_and]
  have e3 : zushr (zJ (n - (n / 2 &&& 1431655765))) 2 = zJ ((n - (n / 2 &&& 1431655765)) / 4) := by
    rw [show (2 : Int32) = zJ 2 from rfl, yJ_shr (by omega) (by omega)]
  rw [e3, e2, e2, zJ_add, F5]
  have e4 : zushr (zJ (yhv 16 F)) 4 = zJ (yhv 16 F / 16) := by
    rw [show (4 : Int32) = zJ 4 from rfl, yJ_shr G3 (by omega)]
  rw [e4, zJ_add]
  have e5 : zJ (yhv 16 F + yhv 16 F / 16) &&& 252645135 = zJ x3 := by rw [show (252645135 : Int32) = zJ 252645135 from rfl, zJ_and, G1]
  have hx3 : x3 < 4294967296 := by omega
  have e6 : zushr (zJ x3) 8 = zJ (x3 / 256) := by
    rw [show (8 : Int32) = zJ 8 from rfl, yJ_shr hx3 (by omega)]
  rw [e5, e6, zJ_add]
  have e7 : zushr (zJ (x3 + x3 / 256)) 16 = zJ ((x3 + x3 / 256) / 65536) := by
    rw [show (16 : Int32) = zJ 16 from rfl, yJ_shr (by omega) (by omega)]
  rw [e7, zJ_add, show (63 : Int32) = zJ 63 from rfl, zJ_and, show (63 : Nat) = 2 ^ 6 - 1 from rfl, Nat.and_two_pow_sub_one_eq_mod]
theorem bitCount_L {x : Int64} : f_Long_bitCount x = some (zJ (fb_ct (zBl x) 64)) := by
  have hx : x = yL x.toBitVec.toNat := yL_of_bv rfl
  have hn : x.toBitVec.toNat < 18446744073709551616 := x.toBitVec.isLt
  have hb : fb_ct (zBl x) 64 = fb_ct (x.toBitVec.toNat.testBit) 64 := fb_ct_cong fun i hi => rfl
  rw [hb]
  generalize x.toBitVec.toNat = n at *
  subst hx
  obtain ⟨F, F1, F2, F3, F4, F5⟩ := ypop2 (m := 16) (n := n) (m5 := 6148914691236517205) (m3 := 3689348814741910323) hn rfl rfl
  obtain ⟨x3, G1, G2, G3, G4, G5⟩ := ypopf64 F1 F2
  rw [show 2 * (16 + 16) = 64 from rfl] at F3
  rw [← F3, ← G5]
  unfold f_Long_bitCount
  have e1 : zlushr (yL n) 1 &&& 6148914691236517205 = yL ((n / 2) &&& 6148914691236517205) := by
    rw [show (1 : Int32) = zJ 1 from rfl, yL_shr hn (by omega), show (6148914691236517205 : Int64) = yL 6148914691236517205 from rfl, yL_and]
  rw [e1, yL_sub F4]
  have e2 : ∀ a, yL a &&& 3689348814741910323 = yL (a &&& 3689348814741910323) := fun a => by rw [show (3689348814741910323 : Int64) = yL 3689348814741910323 from rfl, yL_and]
  have e3 : zlushr (yL (n - (n / 2 &&& 6148914691236517205))) 2 = yL ((n - (n / 2 &&& 6148914691236517205)) / 4) := by
    rw [show (2 : Int32) = zJ 2 from rfl, yL_shr (by omega) (by omega)]
  rw [e3, e2, e2, yL_add, F5]
  have e4 : zlushr (yL (yhv 16 F)) 4 = yL (yhv 16 F / 16) := by
    rw [show (4 : Int32) = zJ 4 from rfl, yL_shr G3 (by omega)]
  rw [e4, yL_add]
  have e5 : yL (yhv 16 F + yhv 16 F / 16) &&& 1085102592571150095 = yL x3 := by rw [show (1085102592571150095 : Int64) = yL 1085102592571150095 from rfl, yL_and, G1]
  have hx3 : x3 < 18446744073709551616 := by omega
  have e6 : zlushr (yL x3) 8 = yL (x3 / 256) := by
    rw [show (8 : Int32) = zJ 8 from rfl, yL_shr hx3 (by omega)]
  rw [e5, e6, yL_add]
  have e7 : zlushr (yL (x3 + x3 / 256)) 16 = yL ((x3 + x3 / 256) / 65536) := by
    rw [show (16 : Int32) = zJ 16 from rfl, yL_shr (by omega) (by omega)]
  rw [e7, yL_add]
  have e8 : zlushr (yL (x3 + x3 / 256 + (x3 + x3 / 256) / 65536)) 32 = yL ((x3 + x3 / 256 + (x3 + x3 / 256) / 65536) / 4294967296) := by
    rw [show (32 : Int32) = zJ 32 from rfl, yL_shr G4 (by omega)]
  rw [e8, yL_add, yL_toI, show (127 : Int32) = zJ 127 from rfl, zJ_and, show (127 : Nat) = 2 ^ 7 - 1 from rfl, Nat.and_two_pow_sub_one_eq_mod]
