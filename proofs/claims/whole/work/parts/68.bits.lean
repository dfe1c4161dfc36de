/-! small numbers as sets -/
def pcF : Nat → Nat → Nat
  | 0, _ => 0
  | k + 1, s => s % 2 + pcF k (s / 2)
def pc (s : Nat) : Nat := pcF 8 s
theorem sub_le : ∀ s, s < 256 → ∀ l, l < 256 → iand ((s : Nat) : Int) (ixor ((l : Nat) : Int) (-1)) = 0 → s ≤ l := by decide +kernel
theorem bits_step : ∀ s, s < 256 → s ≠ 0 → iand ((s : Nat) : Int) (((s : Nat) : Int) - 1) = ((s &&& (s - 1) : Nat) : Int) ∧ (s &&& (s - 1)) < s ∧ pc s = pc (s &&& (s - 1)) + 1 := by decide +kernel
theorem ishl_1 : ∀ n, n ≤ 8 → ishl 1 ((n : Nat) : Int) = ((2 ^ n : Nat) : Int) := by decide +kernel
