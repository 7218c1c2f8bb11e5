/-! ===== how many bits are set ===== -/
def yhv (B : Nat) : List Nat → Nat
  | [] => 0
  | d :: r => d + B * yhv B r
def ydgs (B : Nat) : Nat → Nat → List Nat
  | 0, _ => []
  | m + 1, n => n % B :: ydgs B m (n / B)
def yprs (B : Nat) : List Nat → List Nat
  | a :: b :: r => (a + B * b) :: yprs B r
  | _ => []
def ysm : List Nat → Nat
  | [] => 0
  | d :: r => d + ysm r
theorem yhv_c {B d : Nat} {r : List Nat} : yhv B (d :: r) = d + B * yhv B r := rfl
theorem ysm_c {d : Nat} {r : List Nat} : ysm (d :: r) = d + ysm r := rfl
theorem yand2 {k a b d c : Nat} (hd : d < 2 ^ k) (hc : c < 2 ^ k) : (d + 2 ^ k * a) &&& (c + 2 ^ k * b) = (d &&& c) + 2 ^ k * (a &&& b) := by
  have hdc : d &&& c < 2 ^ k := Nat.lt_of_le_of_lt Nat.and_le_left hd
  apply Nat.eq_of_testBit_eq
  intro j
  rw [Nat.add_comm d, Nat.add_comm c, Nat.add_comm (d &&& c), Nat.testBit_and, Nat.testBit_two_pow_mul_add _ hd, Nat.testBit_two_pow_mul_add _ hc, Nat.testBit_two_pow_mul_add _ hdc]
  split <;> simp
theorem yhv_dgs {B : Nat} (hB : 0 < B) : ∀ m n, n < B ^ m → yhv B (ydgs B m n) = n
  | 0, n, h => by
    simp at h
    subst h
    rfl
  | m + 1, n, h => by
    unfold ydgs yhv
    rw [yhv_dgs hB m (n / B) (by rw [Nat.div_lt_iff_lt_mul hB]; rw [Nat.pow_succ] at h; exact h), Nat.mod_add_div]
theorem ydgs_lt {B : Nat} (hB : 0 < B) : ∀ m n, ∀ d ∈ ydgs B m n, d < B
  | 0, _, d, h => by cases h
  | m + 1, n, d, h => by
    rcases List.mem_cons.mp h with rfl | h
    · exact Nat.mod_lt _ hB
    · exact ydgs_lt hB m _ d h
theorem ydgs_len {B : Nat} : ∀ m n, (ydgs B m n).length = m
  | 0, _ => rfl
  | m + 1, n => by
    unfold ydgs
    rw [List.length_cons, ydgs_len m]
theorem yhv_lo {w : Nat} : ∀ D : List Nat, (∀ d ∈ D, d < 2 ^ (w + w)) → yhv (2 ^ (w + w)) D &&& yhv (2 ^ (w + w)) (List.replicate D.length (2 ^ w - 1)) = yhv (2 ^ (w + w)) (D.map (· % 2 ^ w))
  | [], _ => by simp [yhv]
  | d :: r, h => by
    have hw : 2 ^ w ≤ 2 ^ (w + w) := Nat.pow_le_pow_right (by omega) (by omega)
    have hp : 0 < 2 ^ w := Nat.two_pow_pos w
    rw [List.length_cons, List.replicate_succ, List.map_cons]
    unfold yhv
    rw [yand2 (h d List.mem_cons_self) (by omega), yhv_lo r (fun x hx => h x (List.mem_cons_of_mem _ hx)), Nat.and_two_pow_sub_one_eq_mod]
theorem yhv_hi {w : Nat} : ∀ D : List Nat, (∀ d ∈ D, d < 2 ^ (w + w)) → (yhv (2 ^ (w + w)) D / 2 ^ w) &&& yhv (2 ^ (w + w)) (List.replicate D.length (2 ^ w - 1)) = yhv (2 ^ (w + w)) (D.map (· / 2 ^ w))
  | [], _ => by simp [yhv]
  | d :: r, h => by
    have hw : 2 ^ w ≤ 2 ^ (w + w) := Nat.pow_le_pow_right (by omega) (by omega)
    have hp : 0 < 2 ^ w := Nat.two_pow_pos w
    have hd := h d List.mem_cons_self
    have hpp : 2 ^ (w + w) = 2 ^ w * 2 ^ w := Nat.pow_add 2 w w
    rw [List.length_cons, List.replicate_succ, List.map_cons]
    rw [yhv_c, yhv_c, yhv_c]
    have e1 : (d + 2 ^ (w + w) * yhv (2 ^ (w + w)) r) / 2 ^ w = (d / 2 ^ w + 2 ^ w * (yhv (2 ^ (w + w)) r % 2 ^ w)) + 2 ^ (w + w) * (yhv (2 ^ (w + w)) r / 2 ^ w) := by
      rw [hpp, Nat.mul_assoc, Nat.add_mul_div_left _ _ hp, Nat.mul_assoc (2 ^ w) (2 ^ w), Nat.add_assoc, ← Nat.mul_add, Nat.mod_add_div]
    have hq : d / 2 ^ w < 2 ^ w := by
      rw [Nat.div_lt_iff_lt_mul hp, ← hpp]
      exact hd
    have hm : yhv (2 ^ (w + w)) r % 2 ^ w < 2 ^ w := Nat.mod_lt _ hp
    have h2 : d / 2 ^ w + 2 ^ w * (yhv (2 ^ (w + w)) r % 2 ^ w) < 2 ^ (w + w) := by
      generalize yhv (2 ^ (w + w)) r % 2 ^ w = Y at hm
      rw [hpp]
      have : 2 ^ w * Y ≤ 2 ^ w * (2 ^ w - 1) := Nat.mul_le_mul_left _ (by omega)
      have e2 : 2 ^ w * (2 ^ w - 1) + 2 ^ w = 2 ^ w * 2 ^ w := by
        rw [← Nat.mul_succ]
        congr 1
        omega
      omega
    rw [e1, yand2 h2 (by omega), yhv_hi r (fun x hx => h x (List.mem_cons_of_mem _ hx)), Nat.and_two_pow_sub_one_eq_mod, Nat.add_mul_mod_self_left, Nat.mod_eq_of_lt hq]
theorem yhv_add {B : Nat} {f g : Nat → Nat} : ∀ D : List Nat, yhv B (D.map f) + yhv B (D.map g) = yhv B (D.map (fun d => f d + g d))
  | [] => rfl
  | d :: r => by
    rw [List.map_cons, List.map_cons, List.map_cons]
    unfold yhv
    rw [← yhv_add r, Nat.mul_add]
    omega
theorem yhv_prs {B : Nat} : ∀ D : List Nat, D.length % 2 = 0 → yhv B D = yhv (B * B) (yprs B D)
  | [], _ => rfl
  | [a], h => by cases h
  | a :: b :: r, h => by
    unfold yprs
    rw [yhv_c, yhv_c, yhv_c, ← yhv_prs r (by simp at h; omega), Nat.mul_add, Nat.mul_assoc]
    omega
theorem yprs_lt {B M : Nat} (hM : 0 < M) : ∀ D : List Nat, (∀ d ∈ D, d < M) → ∀ d ∈ yprs B D, d < M + B * M
  | [], _, d, h => by cases h
  | [a], _, d, h => by cases h
  | a :: b :: r, hd, d, h => by
    rcases List.mem_cons.mp h with rfl | h
    · have h1 := hd a List.mem_cons_self
      have h2 := hd b (List.mem_cons_of_mem _ List.mem_cons_self)
      have : B * b ≤ B * M := Nat.mul_le_mul_left _ (by omega)
      omega
    · exact yprs_lt hM r (fun x hx => hd x (List.mem_cons_of_mem _ (List.mem_cons_of_mem _ hx))) d h
theorem yprs_len {B : Nat} : ∀ D : List Nat, (yprs B D).length = D.length / 2
  | [] => rfl
  | [a] => by simp [yprs]
  | a :: b :: r => by
    unfold yprs
    rw [List.length_cons, yprs_len r]
    simp
    omega
theorem yprs_sm {B : Nat} (hB : 0 < B) : ∀ D : List Nat, D.length % 2 = 0 → (∀ d ∈ D, d < B) → ysm ((yprs B D).map (fun d => d % B + d / B)) = ysm D
  | [], _, _ => rfl
  | [a], h, _ => by cases h
  | a :: b :: r, h, hd => by
    unfold yprs
    rw [List.map_cons, ysm_c, ysm_c, ysm_c, yprs_sm hB r (by simp at h; omega) (fun x hx => hd x (List.mem_cons_of_mem _ (List.mem_cons_of_mem _ hx)))]
    have h1 := hd a List.mem_cons_self
    rw [Nat.add_mul_mod_self_left, Nat.add_mul_div_left _ _ hB, Nat.mod_eq_of_lt h1, Nat.div_eq_of_lt h1]
    omega
theorem yprs_le : ∀ D : List Nat, (∀ d ∈ D, d < 3) → ∀ d ∈ yprs 4 D, d % 4 + d / 4 ≤ 4
  | [], _, d, h => by cases h
  | [a], _, d, h => by cases h
  | a :: b :: r, hd, d, h => by
    rcases List.mem_cons.mp h with rfl | h
    · have h1 := hd a List.mem_cons_self
      have h2 := hd b (List.mem_cons_of_mem _ List.mem_cons_self)
      omega
    · exact yprs_le r (fun x hx => hd x (List.mem_cons_of_mem _ (List.mem_cons_of_mem _ hx))) d h
theorem ysm_map {f g : Nat → Nat} : ∀ D : List Nat, (∀ d ∈ D, f d = g d) → ysm (D.map f) = ysm (D.map g)
  | [], _ => rfl
  | d :: r, h => by
    rw [List.map_cons, List.map_cons]
    unfold ysm
    rw [h d List.mem_cons_self, ysm_map r (fun x hx => h x (List.mem_cons_of_mem _ hx))]
theorem ysm_dgs : ∀ m n, ysm ((ydgs 4 m n).map (fun d => d % 2 + d / 2)) = fb_ct n.testBit (2 * m)
  | 0, _ => rfl
  | m + 1, n => by
    unfold ydgs
    rw [List.map_cons]
    unfold ysm
    rw [ysm_dgs m, show 2 * (m + 1) = 2 + 2 * m by omega, fb_ct_split]
    have e1 : (n / 4).testBit = fun k => n.testBit (2 + k) := by
      funext k
      rw [Nat.add_comm, Nat.testBit_add]
    rw [e1]
    congr 1
    show _ = (0 + (if n.testBit 0 then 1 else 0)) + (if n.testBit 1 then 1 else 0)
    rw [Nat.testBit_zero, Nat.testBit_succ, Nat.testBit_zero]
    simp only [decide_eq_true_eq]
    split <;> split <;> omega
/-- the first two steps -/
theorem ypop2 {m n m5 m3 : Nat} (hn : n < 4 ^ (m + m)) (h5 : m5 = yhv 4 (List.replicate (m + m) 1)) (h3 : m3 = yhv 16 (List.replicate m 3)) : ∃ F : List Nat, F.length = m ∧ (∀ d ∈ F, d ≤ 4) ∧ ysm F = fb_ct n.testBit (2 * (m + m)) ∧ (n / 2) &&& m5 ≤ n ∧ ((n - ((n / 2) &&& m5)) &&& m3) + (((n - ((n / 2) &&& m5)) / 4) &&& m3) = yhv 16 F := by
  have hD := ydgs_lt (B := 4) (by omega) (m + m) n
  have hl := ydgs_len (B := 4) (m + m) n
  have hv := yhv_dgs (B := 4) (by omega) (m + m) n hn
  have hs := ysm_dgs (m + m) n
  generalize ydgs 4 (m + m) n = D at *
  have a1 := yhv_hi (w := 1) D hD
  have a2 := yhv_lo (w := 1) D hD
  rw [show (2 : Nat) ^ (1 + 1) = 4 from rfl, show (2 : Nat) ^ 1 - 1 = 1 from rfl, hl, ← h5, hv] at a1 a2
  simp only [Nat.pow_one] at a1 a2
  have a3 : yhv 4 (D.map (fun d => d % 2 + d / 2)) + yhv 4 (D.map (· / 2)) = n := by
    rw [yhv_add, ← hv]
    congr 1
    conv => rhs; rw [← List.map_id D]
    apply List.map_congr_left
    intro d hd
    have := hD d hd
    simp
    omega
  have a4 : n - ((n / 2) &&& m5) = yhv 4 (D.map (fun d => d % 2 + d / 2)) := by
    rw [a1]
    omega
  have hE : ∀ d ∈ D.map (fun d => d % 2 + d / 2), d < 3 := by
    intro d hd
    obtain ⟨c, hc, rfl⟩ := List.mem_map.mp hd
    have := hD c hc
    omega
  have hEl : (D.map (fun d => d % 2 + d / 2)).length = m + m := by rw [List.length_map, hl]
  generalize D.map (fun d => d % 2 + d / 2) = E at *
  have hp := yhv_prs (B := 4) E (by rw [hEl]; omega)
  have hpl : (yprs 4 E).length = m := by
    rw [yprs_len, hEl]
    omega
  have hps := yprs_sm (B := 4) (by omega) E (by rw [hEl]; omega) (fun d hd => by have := hE d hd; omega)
  have hpd : ∀ d ∈ yprs 4 E, d < 3 + 4 * 3 := yprs_lt (by omega) E hE
  have hpe := yprs_le E hE
  generalize yprs 4 E = G at *
  have b1 := yhv_hi (w := 2) G (fun d hd => by have := hpd d hd; show d < 16; omega)
  have b2 := yhv_lo (w := 2) G (fun d hd => by have := hpd d hd; show d < 16; omega)
  rw [show (2 : Nat) ^ (2 + 2) = 16 from rfl, show (2 : Nat) ^ 2 - 1 = 3 from rfl, hpl, ← h3, show (16 : Nat) = 4 * 4 from rfl, ← hp] at b1 b2
  simp only [show (2 : Nat) ^ 2 = 4 from rfl] at b1 b2
  refine ⟨G.map (fun d => d % 4 + d / 4), by rw [List.length_map, hpl], ?_, by rw [hps, hs], by rw [a1]; omega, ?_⟩
  · intro d hd
    obtain ⟨c, hc, rfl⟩ := List.mem_map.mp hd
    exact hpe c hc
  · rw [a4, b1, b2, yhv_add]
