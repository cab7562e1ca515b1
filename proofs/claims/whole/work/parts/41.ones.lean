/-! ONES: how many bits of an int, of a row, are 1. -/
def pc : Nat → Nat → Nat
  | 0, _ => 0
  | n + 1, x => x % 2 + pc n (x / 2)
theorem pc_add : ∀ m n x, pc (m + n) x = pc m x + pc n (x / 2 ^ m) := by
  intro m
  induction m with
  | zero => intro n x; rw [Nat.zero_add, Nat.pow_zero, Nat.div_one]; exact (Nat.zero_add _).symm
  | succ m ih =>
    intro n x
    rw [show m + 1 + n = (m + n) + 1 by omega, pc, pc, ih, Nat.div_div_eq_div_mul, ← Nat.pow_succ', Nat.add_assoc]
theorem pc_mod : ∀ n x, pc n (x % 2 ^ n) = pc n x := by
  intro n
  induction n with
  | zero => intro x; rfl
  | succ n ih =>
    intro x
    rw [pc, pc, ← ih (x / 2), Nat.pow_succ', Nat.mod_mul_right_mod, Nat.mod_mul_right_div_self]
theorem pc_0 : ∀ n, pc n 0 = 0 := by
  intro n
  induction n with
  | zero => rfl
  | succ n ih => rw [pc, Nat.zero_div, ih]
theorem pc_le : ∀ n x, pc n x ≤ n := by
  intro n
  induction n with
  | zero => intro x; exact Nat.le_refl _
  | succ n ih => intro x; have := ih (x / 2); rw [pc]; omega
theorem and_byte (a m : Nat) : a &&& m = (a % 256 &&& m % 256) + 256 * (a / 256 &&& m / 256) := by
  have h1 : (a &&& m) % 2 ^ 8 = a % 2 ^ 8 &&& m % 2 ^ 8 := Nat.and_mod_two_pow
  have h2 : (a &&& m) / 2 ^ 8 = a / 2 ^ 8 &&& m / 2 ^ 8 := Nat.and_div_two_pow
  have h3 := Nat.div_add_mod (a &&& m) (2 ^ 8)
  rw [h1, h2, show (2 : Nat) ^ 8 = 256 from rfl] at h3
  omega
theorem and_0 {a : Nat} (h : a = 0) (m : Nat) : a &&& m = 0 := by rw [h]; exact Nat.zero_and m
theorem and_word {a m m0 m1 m2 m3 a0 a1 a2 a3 : Nat} (ha : a = a0 + 256 * a1 + 65536 * a2 + 16777216 * a3) (h0 : a0 < 256) (h1 : a1 < 256) (h2 : a2 < 256) (h3 : a3 < 256) (hm : m = m0 + 256 * m1 + 65536 * m2 + 16777216 * m3) (k0 : m0 < 256) (k1 : m1 < 256) (k2 : m2 < 256) (k3 : m3 < 256) :
    a &&& m = (a0 &&& m0) + 256 * (a1 &&& m1) + 65536 * (a2 &&& m2) + 16777216 * (a3 &&& m3) := by
  rw [and_byte a m, and_byte (a / 256) (m / 256), and_byte (a / 256 / 256) (m / 256 / 256), and_byte (a / 256 / 256 / 256) (m / 256 / 256 / 256), and_0 (a := a / 256 / 256 / 256 / 256) (by omega)]
  rw [show a % 256 = a0 by omega, show m % 256 = m0 by omega, show a / 256 % 256 = a1 by omega, show m / 256 % 256 = m1 by omega, show a / 256 / 256 % 256 = a2 by omega, show m / 256 / 256 % 256 = m2 by omega, show a / 256 / 256 / 256 % 256 = a3 by omega, show m / 256 / 256 / 256 % 256 = m3 by omega]
  omega
theorem pc_byte1 : ∀ u, u < 256 → ∀ v, v < 2 → (u / 2 + 128 * v) &&& 85 = u / 2 &&& 85 := by decide +kernel
theorem pc_byte1' : ∀ u, u < 256 → u / 2 &&& 85 ≤ u := by decide +kernel
theorem pc_byte2 : ∀ u, u < 256 → ∀ v, v < 4 → (u / 4 + 64 * v) &&& 51 = u / 4 &&& 51 := by decide +kernel
def pq1 (b : Nat) : Nat := b - (b / 2 &&& 85)
def pq2 (b : Nat) : Nat := (pq1 b &&& 51) + (pq1 b / 4 &&& 51)
def pq3 (b : Nat) : Nat := (pq2 b + pq2 b / 16) % 16
theorem pq2_le : ∀ b, b < 256 → pq2 b % 16 ≤ 4 ∧ pq2 b / 16 ≤ 4 := by decide +kernel
theorem pq3_pc : ∀ b, b < 256 → pq3 b = pc 8 b := by decide +kernel
theorem pc_main {x b0 b1 b2 b3 : Nat} (hx : x = b0 + 256 * b1 + 65536 * b2 + 16777216 * b3) (h0 : b0 < 256) (h1 : b1 < 256) (h2 : b2 < 256) (h3 : b3 < 256) :
    x / 2 &&& 1431655765 = (b0 / 2 &&& 85) + 256 * (b1 / 2 &&& 85) + 65536 * (b2 / 2 &&& 85) + 16777216 * (b3 / 2 &&& 85) := by
  rw [and_word (a0 := b0 / 2 + 128 * (b1 % 2)) (a1 := b1 / 2 + 128 * (b2 % 2)) (a2 := b2 / 2 + 128 * (b3 % 2)) (a3 := b3 / 2 + 128 * 0) (m0 := 85) (m1 := 85) (m2 := 85) (m3 := 85) (by omega) (by omega) (by omega) (by omega) (by omega) (by decide) (by decide) (by decide) (by decide) (by decide)]
  rw [pc_byte1 b0 h0 _ (Nat.mod_lt _ (by decide)), pc_byte1 b1 h1 _ (Nat.mod_lt _ (by decide)), pc_byte1 b2 h2 _ (Nat.mod_lt _ (by decide)), pc_byte1 b3 h3 0 (by decide)]
theorem pc_main2 {y c0 c1 c2 c3 : Nat} (hx : y = c0 + 256 * c1 + 65536 * c2 + 16777216 * c3) (h0 : c0 < 256) (h1 : c1 < 256) (h2 : c2 < 256) (h3 : c3 < 256) :
    (y &&& 858993459) = (c0 &&& 51) + 256 * (c1 &&& 51) + 65536 * (c2 &&& 51) + 16777216 * (c3 &&& 51) ∧ (y / 4 &&& 858993459) = (c0 / 4 &&& 51) + 256 * (c1 / 4 &&& 51) + 65536 * (c2 / 4 &&& 51) + 16777216 * (c3 / 4 &&& 51) := by
  constructor
  · exact and_word (m0 := 51) (m1 := 51) (m2 := 51) (m3 := 51) hx h0 h1 h2 h3 (by decide) (by decide) (by decide) (by decide) (by decide)
  · rw [and_word (a0 := c0 / 4 + 64 * (c1 % 4)) (a1 := c1 / 4 + 64 * (c2 % 4)) (a2 := c2 / 4 + 64 * (c3 % 4)) (a3 := c3 / 4 + 64 * 0) (m0 := 51) (m1 := 51) (m2 := 51) (m3 := 51) (by omega) (by omega) (by omega) (by omega) (by omega) (by decide) (by decide) (by decide) (by decide) (by decide)]
    rw [pc_byte2 c0 h0 _ (Nat.mod_lt _ (by decide)), pc_byte2 c1 h1 _ (Nat.mod_lt _ (by decide)), pc_byte2 c2 h2 _ (Nat.mod_lt _ (by decide)), pc_byte2 c3 h3 0 (by decide)]
theorem and_15 (a : Nat) : a &&& 15 = a % 16 := Nat.and_two_pow_sub_one_eq_mod a 4
theorem and_63 (a : Nat) : a &&& 63 = a % 64 := Nat.and_two_pow_sub_one_eq_mod a 6
/-- the steps of a count, all in one -/
def cnt1 (x : Nat) : Nat := x - (x / 2 &&& 1431655765)
def cnt2 (y : Nat) : Nat := (y &&& 858993459) + (y / 4 &&& 858993459)
def cnt3 (z : Nat) : Nat := (z + z / 16) &&& 252645135
def cnt4 (w : Nat) : Nat := (w + w / 256) + (w + w / 256) / 65536
theorem cnt_bytes {b0 b1 b2 b3 : Nat} (h0 : b0 < 256) (h1 : b1 < 256) (h2 : b2 < 256) (h3 : b3 < 256) : ∀ x, x = b0 + 256 * b1 + 65536 * b2 + 16777216 * b3 →
    (x / 2 &&& 1431655765) ≤ x ∧ cnt2 (cnt1 x) ≤ 1145324612 ∧ cnt3 (cnt2 (cnt1 x)) = pq3 b0 + 256 * pq3 b1 + 65536 * pq3 b2 + 16777216 * pq3 b3 ∧ cnt1 x < 4294967296 := by
  intro x hx
  have e1 := pc_main hx h0 h1 h2 h3
  have g0 := pc_byte1' b0 h0
  have g1 := pc_byte1' b1 h1
  have g2 := pc_byte1' b2 h2
  have g3 := pc_byte1' b3 h3
  have e2 : cnt1 x = pq1 b0 + 256 * pq1 b1 + 65536 * pq1 b2 + 16777216 * pq1 b3 := by
    unfold cnt1 pq1
    rw [e1]
    omega
  have k : ∀ b, b < 256 → pq1 b < 256 := fun b h => by unfold pq1; omega
  obtain ⟨e3, e4⟩ := pc_main2 e2 (k _ h0) (k _ h1) (k _ h2) (k _ h3)
  have e5 : cnt2 (cnt1 x) = pq2 b0 + 256 * pq2 b1 + 65536 * pq2 b2 + 16777216 * pq2 b3 := by
    unfold cnt2 pq2
    rw [e3, e4]
    omega
  have q0 := pq2_le b0 h0
  have q1 := pq2_le b1 h1
  have q2 := pq2_le b2 h2
  have q3 := pq2_le b3 h3
  have kb0 := k b0 h0
  have kb1 := k b1 h1
  have kb2 := k b2 h2
  have kb3 := k b3 h3
  refine ⟨by omega, by omega, ?_, by omega⟩
  rw [e5]
  generalize hp0 : pq2 b0 = p0 at q0
  generalize hp1 : pq2 b1 = p1 at q1
  generalize hp2 : pq2 b2 = p2 at q2
  generalize hp3 : pq2 b3 = p3 at q3
  unfold cnt3 pq3
  rw [hp0, hp1, hp2, hp3]
  rw [and_word (a0 := p0 + p0 / 16 + 16 * (p1 % 16)) (a1 := p1 + p1 / 16 + 16 * (p2 % 16)) (a2 := p2 + p2 / 16 + 16 * (p3 % 16)) (a3 := p3 + p3 / 16) (m0 := 15) (m1 := 15) (m2 := 15) (m3 := 15) (by omega) (by omega) (by omega) (by omega) (by omega) (by decide) (by decide) (by decide) (by decide) (by decide)]
  rw [and_15, and_15, and_15, and_15]
  omega
theorem cnt_pc {x : Nat} (h : x < 4294967296) : cnt4 (cnt3 (cnt2 (cnt1 x))) % 64 = pc 32 x ∧ cnt3 (cnt2 (cnt1 x)) ≤ 134744072 := by
  obtain ⟨-, -, e, -⟩ := cnt_bytes (b0 := x % 256) (b1 := x / 256 % 256) (b2 := x / 65536 % 256) (b3 := x / 16777216) (by omega) (by omega) (by omega) (by omega) x (by omega)
  rw [e, pq3_pc _ (by omega), pq3_pc _ (by omega), pq3_pc _ (by omega), pq3_pc _ (by omega)]
  have p : pc 32 x = pc 8 (x % 256) + pc 8 (x / 256 % 256) + pc 8 (x / 65536 % 256) + pc 8 (x / 16777216) := by
    have m := fun y => pc_mod 8 y
    rw [show (2 : Nat) ^ 8 = 256 from rfl] at m
    rw [m, m, m, show 32 = 8 + 24 from rfl, pc_add, show 24 = 8 + 16 from rfl, pc_add, show 16 = 8 + 8 from rfl, pc_add, Nat.div_div_eq_div_mul, Nat.div_div_eq_div_mul]
    simp only [Nat.add_assoc]
  have l0 := pc_le 8 (x % 256)
  have l1 := pc_le 8 (x / 256 % 256)
  have l2 := pc_le 8 (x / 65536 % 256)
  have l3 := pc_le 8 (x / 16777216)
  rw [p]
  generalize pc 8 (x % 256) = w0 at *
  generalize pc 8 (x / 256 % 256) = w1 at *
  generalize pc 8 (x / 65536 % 256) = w2 at *
  generalize pc 8 (x / 16777216) = w3 at *
  unfold cnt4
  rw [show (w0 + 256 * w1 + 65536 * w2 + 16777216 * w3) / 256 = w1 + 256 * w2 + 65536 * w3 by omega]
  rw [show (w0 + 256 * w1 + 65536 * w2 + 16777216 * w3 + (w1 + 256 * w2 + 65536 * w3)) / 65536 = w2 + w3 + 256 * w3 by omega]
  constructor <;> omega
