/-! ===== order: the next row of the same cells ===== -/
def gfa (s : Nat → Nat) : Nat → Nat
  | 0 => 0
  | m + 1 => if s m ≤ s (m + 1) then m + 1 else gfa s m
def gge (s : Nat → Nat) (k : Nat) : Nat → Nat
  | 0 => k
  | d + 1 => if s k ≤ s (k + d + 1) then k + d + 1 else gge s k d
def gsw (s : Nat → Nat) (a b : Nat) : Nat → Nat := fun i => if i = b then s a else if i = a then s b else s i
def gnx (n : Nat) (s : Nat → Nat) : Nat → Nat := fun i =>
  if gfa s (n - 1) ≤ i ∧ i ≤ n - 1 then gsw s (gfa s (n - 1) - 1) (gge s (gfa s (n - 1) - 1) (n - gfa s (n - 1))) (gfa s (n - 1) + (n - 1) - i) else gsw s (gfa s (n - 1) - 1) (gge s (gfa s (n - 1) - 1) (n - gfa s (n - 1))) i
def gdec (x i : Nat) : Nat := x / 8 ^ i % 8
def genc (s : Nat → Nat) : Nat := s 0 + s 1 * 8 + s 2 * 64 + s 3 * 512 + s 4 * 4096 + s 5 * 32768
def gcut (n : Nat) (s : Nat → Nat) : Nat → Nat := fun i => if i < n then s i else 0
def gend (n : Nat) : Nat → Nat → Bool
  | 0, _ => false
  | t + 1, x => if gfa (gdec x) (n - 1) = 0 then true else gend n t (genc (gcut n (gnx n (gdec x))))
def gq6 (b0 b1 b2 b3 b4 b5 : Bool) : Nat → Bool
  | 0 => b0
  | 1 => b1
  | 2 => b2
  | 3 => b3
  | 4 => b4
  | 5 => b5
  | _ => false
theorem gend_all : ∀ b0 b1 b2 b3 b4 b5 : Bool, gend (fb_ct (gq6 b0 b1 b2 b3 b4 b5) 6) 720 (genc (gcut (fb_ct (gq6 b0 b1 b2 b3 b4 b5) 6) (gnth (gq6 b0 b1 b2 b3 b4 b5) 6))) = true := by decide +kernel
