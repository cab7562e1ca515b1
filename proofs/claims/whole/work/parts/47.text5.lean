/-! TEXT: valueInto. -/
def vl (l : List Int32) (b : Nat) : Nat → Nat → Nat → Nat
  | 0, _, acc => acc
  | n + 1, i, acc => vl l b n (i + 1) (acc * b + dgt (l.getD i 0))
def value (l : List Int32) (b : Nat) : Nat := vl l b (l.length - st0 l) (st0 l) 0
theorem pow36 {b n : Nat} (hb : b ≤ 36) (hn : n ≤ 3000) : b ^ n ≤ 2147483648 ^ 517 := by
  have h1 : b ^ n ≤ 36 ^ n := Nat.pow_le_pow_left hb n
  have h2 : 36 ^ n ≤ 36 ^ 3000 := Nat.pow_le_pow_right (by decide) hn
  have h3 : (36 : Nat) ^ 3000 = 46656 ^ 1000 := by rw [show (46656 : Nat) = 36 ^ 3 from rfl, ← Nat.pow_mul]
  have h4 : 46656 ^ 1000 ≤ (2 ^ 16) ^ 1000 := Nat.pow_le_pow_left (by decide) 1000
  have h5 : ((2 : Nat) ^ 16) ^ 1000 ≤ 2147483648 ^ 517 := by rw [← Nat.pow_mul, b31]; exact Nat.pow_le_pow_right (by decide) (by decide)
  rw [h3] at h2
  exact Nat.le_trans h1 (Nat.le_trans h2 (Nat.le_trans h4 h5))
