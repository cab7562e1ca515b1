/-! THE REFERENCE'S NUMBERS: parts of sixteen bits (the lemmas of the limbs, turned). -/
def d16 (x k : Nat) : Nat := x / 65536 ^ k % 65536
def n16 (x : Nat) : Nat := (nbit x + 15) / 16
theorem b16 (n : Nat) : (65536 : Nat) ^ n = 2 ^ (16 * n) := by rw [show (65536 : Nat) = 2 ^ 16 from rfl, ← Nat.pow_mul]
theorem n16_le {x n : Nat} : n16 x ≤ n ↔ x < 65536 ^ n := by
  rw [b16, ← nbit_le]
  unfold n16
  omega
theorem d16_lt (x k : Nat) : d16 x k < 65536 := Nat.mod_lt _ (by decide)
theorem d16_zero {x k : Nat} (h : x < 65536 ^ k) : d16 x k = 0 := by
  unfold d16
  rw [Nat.div_eq_of_lt h]
theorem pow16_pos (k : Nat) : 0 < (65536 : Nat) ^ k := Nat.pow_pos (by decide)
theorem d16_zero' {x k : Nat} (h : n16 x ≤ k) : d16 x k = 0 := d16_zero (n16_le.mp h)
theorem d16_step (x k : Nat) : x % 65536 ^ (k + 1) = x % 65536 ^ k + d16 x k * 65536 ^ k := by
  rw [Nat.mod_pow_succ, Nat.mul_comm (d16 x k)]; rfl
theorem d16_top {x n : Nat} (h : n16 x = n + 1) : d16 x n ≠ 0 := by
  have h1 : ¬ x < 65536 ^ n := fun z => by have := n16_le.mpr z; omega
  have h2 : x < 65536 ^ (n + 1) := n16_le.mp (by omega)
  unfold d16
  have h3 : x / 65536 ^ n < 65536 := by
    rw [Nat.div_lt_iff_lt_mul (pow16_pos n), Nat.mul_comm, ← Nat.pow_succ]; exact h2
  rw [Nat.mod_eq_of_lt h3]
  have := Nat.div_pos (Nat.not_lt.mp h1) (pow16_pos n)
  omega
theorem n16_zero {x : Nat} : n16 x = 0 ↔ x = 0 := by
  constructor
  · intro h
    have := n16_le.mp (Nat.le_of_eq h)
    simp at this
    exact this
  · rintro rfl; decide
theorem mod_all16 {x n : Nat} (h : x < 65536 ^ n) : x % 65536 ^ n = x := Nat.mod_eq_of_lt h
theorem d16_ext {x y n : Nat} (hx : x < 65536 ^ n) (hy : y < 65536 ^ n) (h : ∀ k, k < n → d16 x k = d16 y k) : x = y := by
  have : ∀ m, m ≤ n → x % 65536 ^ m = y % 65536 ^ m := by
    intro m
    induction m with
    | zero => intro _; simp [Nat.mod_one]
    | succ m ih => intro hm; rw [d16_step, d16_step, ih (by omega), h m (by omega)]
  rw [← mod_all16 hx, ← mod_all16 hy]
  exact this n (Nat.le_refl _)
theorem carry_step16 {Z T T' d m P : Int} (hP : 0 < P) (hT : T' = T + d * P) (hZ : Z = T' + m * (P * 65536)) : (T / P + d) % 65536 = Z / P % 65536 ∧ (T / P + d) / 65536 = T' / (P * 65536) := by
  have h1 : T' / P = T / P + d := by rw [hT]; exact Int.add_mul_ediv_right _ _ (by omega)
  have h2 : Z / P = T' / P + m * 65536 := by
    rw [hZ, show m * (P * 65536) = (m * 65536) * P by rw [Int.mul_comm P, ← Int.mul_assoc]]
    exact Int.add_mul_ediv_right _ _ (by omega)
  constructor
  · rw [h2, h1, Int.add_mul_emod_self_right]
  · rw [← h1]; exact (Int.ediv_ediv_of_nonneg (Int.le_of_lt hP))
theorem carry_nat16 {Z T T' d k : Nat} (hT : T' = T + d * 65536 ^ k) (hZ : ∃ m, Z = T' + m * 65536 ^ (k + 1)) : (T / 65536 ^ k + d) % 65536 = d16 Z k ∧ (T / 65536 ^ k + d) / 65536 = T' / 65536 ^ (k + 1) := by
  obtain ⟨m, hZ⟩ := hZ
  have hP := pow16_pos k
  have h1 : T' / 65536 ^ k = T / 65536 ^ k + d := by rw [hT]; exact Nat.add_mul_div_right _ _ hP
  have h2 : Z / 65536 ^ k = T' / 65536 ^ k + m * 65536 := by
    rw [hZ, Nat.pow_succ, show m * (65536 ^ k * 65536) = (m * 65536) * 65536 ^ k by rw [Nat.mul_comm (65536 ^ k), ← Nat.mul_assoc]]
    exact Nat.add_mul_div_right _ _ hP
  constructor
  · unfold d16; rw [h2, h1, Nat.add_mul_mod_self_right]
  · rw [← h1, Nat.pow_succ, Nat.div_div_eq_div_mul]
theorem d16_int (x k : Nat) : (d16 x k : Int) = (x : Int) / (65536 : Int) ^ k % 65536 := by
  unfold d16
  rw [Int.natCast_emod, Int.natCast_ediv, Int.natCast_pow]
  rfl
theorem pow16_int (k : Nat) : (0 : Int) < (65536 : Int) ^ k := Int.pow_pos (by decide)
theorem mod_int16 (x k : Nat) : ((x % 65536 ^ k : Nat) : Int) = (x : Int) % (65536 : Int) ^ k := by
  rw [Int.natCast_emod, Int.natCast_pow]; rfl
theorem carry_int16 {Z k : Nat} {T T' d m : Int} (hT : T' = T + d * (65536 : Int) ^ k) (hZ : (Z : Int) = T' + m * (65536 : Int) ^ (k + 1)) : (T / (65536 : Int) ^ k + d) % 65536 = (d16 Z k : Int) ∧ (T / (65536 : Int) ^ k + d) / 65536 = T' / (65536 : Int) ^ (k + 1) := by
  obtain ⟨h1, h2⟩ := carry_step16 (Z := (Z : Int)) (pow16_int k) hT (m := m) (by rw [hZ, Int.pow_succ])
  exact ⟨by rw [h1, d16_int], by rw [h2, Int.pow_succ]⟩
theorem d16_up (x k : Nat) : x / 65536 ^ k = x / 65536 ^ (k + 1) * 65536 + d16 x k := by
  unfold d16
  rw [Nat.pow_succ, ← Nat.div_div_eq_div_mul]
  have := Nat.div_add_mod (x / 65536 ^ k) 65536
  omega
theorem part_step16 {x d k : Nat} (hd : 0 < d) : (x / 65536 ^ (k + 1) % d * 65536 + d16 x k) / d = d16 (x / d) k ∧ (x / 65536 ^ (k + 1) % d * 65536 + d16 x k) % d = x / 65536 ^ k % d := by
  have h1 := d16_up x k
  have hb := d16_lt x k
  have h2 : x / d / 65536 ^ k = x / 65536 ^ k / d := by rw [Nat.div_div_eq_div_mul, Nat.div_div_eq_div_mul, Nat.mul_comm]
  generalize x / 65536 ^ (k + 1) = q at h1 ⊢
  have h3 := Nat.div_add_mod q d
  have h4 : q * 65536 + d16 x k = (q % d * 65536 + d16 x k) + d * (q / d * 65536) := by
    conv => lhs; rw [← h3, Nat.add_mul, Nat.mul_assoc]
    omega
  have h5 : (q % d * 65536 + d16 x k) / d < 65536 := by
    rw [Nat.div_lt_iff_lt_mul hd]
    have := Nat.mod_lt q hd
    have h6 : (q % d + 1) * 65536 ≤ d * 65536 := Nat.mul_le_mul_right _ this
    omega
  constructor
  · conv => rhs; unfold d16
    rw [h2, h1, h4, Nat.add_mul_div_left _ _ hd, Nat.add_mul_mod_self_right, Nat.mod_eq_of_lt h5]
  · rw [h1, h4, Nat.add_mul_mod_self_left]
theorem n16_mono {x y : Nat} (h : x ≤ y) : n16 x ≤ n16 y := n16_le.mpr (Nat.lt_of_le_of_lt h (n16_le.mp (Nat.le_refl (n16 y))))
theorem prod_step16 {x y i : Nat} : x % 65536 ^ (i + 1) * y = x % 65536 ^ i * y + d16 x i * y * 65536 ^ i := by
  rw [d16_step, Nat.add_mul, Nat.mul_right_comm]
theorem d16_less {x y n : Nat} (h : x / 65536 ^ (n + 1) = y / 65536 ^ (n + 1)) (hd : d16 x n < d16 y n) : x < y := by
  rcases Nat.lt_or_ge x y with h1 | h1
  · exact h1
  · have h2 := Nat.div_le_div_right (c := 65536 ^ n) h1
    rw [d16_up x n, d16_up y n, h] at h2
    omega
theorem n16_less {x y : Nat} (h : n16 x < n16 y) : x < y := by
  rcases Nat.lt_or_ge x y with h1 | h1
  · exact h1
  · have := n16_mono h1; omega
theorem nbit_top16 {x n : Nat} (h : n16 x = n + 1) : nbit x = n * 16 + nbit (d16 x n) := by
  have h2 : x < 65536 ^ (n + 1) := n16_le.mp (by omega)
  have h3 : x / 65536 ^ n < 65536 := by
    rw [Nat.div_lt_iff_lt_mul (pow16_pos n), Nat.mul_comm, ← Nat.pow_succ]; exact h2
  have hd : d16 x n = x / 2 ^ (16 * n) := by rw [← b16]; exact Nat.mod_eq_of_lt h3
  have ht := d16_top h
  rw [hd] at ht ⊢
  rw [nbit_div ht]; omega
theorem pow_int16 (k : Nat) : ((65536 ^ k : Nat) : Int) = (65536 : Int) ^ k := by rw [Int.natCast_pow]; rfl
theorem d16_mod {Z j m : Nat} (h : j < m) : d16 (Z % 65536 ^ m) j = d16 Z j := by
  have hp := pow16_pos j
  have e : 65536 ^ m = 65536 ^ j * (65536 * 65536 ^ (m - j - 1)) := by
    rw [← Nat.pow_succ', ← Nat.pow_add]; congr 1; omega
  have h1 := Nat.div_add_mod Z (65536 ^ m)
  unfold d16
  conv => rhs; rw [← h1]
  generalize Z % 65536 ^ m = r
  generalize Z / 65536 ^ m = q
  rw [show 65536 ^ m * q + r = r + 65536 ^ j * (65536 * (65536 ^ (m - j - 1) * q)) by rw [e]; ac_rfl]
  rw [Nat.add_mul_div_left _ _ hp, Nat.add_mul_mod_self_left]
/-- the lowest k parts of S, the others of x -/
def mv (S x k : Nat) : Nat := S % 65536 ^ k + x / 65536 ^ k * 65536 ^ k
theorem mv_0 (S x : Nat) : mv S x 0 = x := by unfold mv; rw [Nat.pow_zero, Nat.mod_one, Nat.div_one, Nat.mul_one, Nat.zero_add]
theorem mv_hi {S x k j : Nat} (h : k ≤ j) : d16 (mv S x k) j = d16 x j := by
  obtain ⟨e, rfl⟩ : ∃ e, j = k + e := ⟨j - k, by omega⟩
  unfold d16 mv
  rw [Nat.pow_add, ← Nat.div_div_eq_div_mul, ← Nat.div_div_eq_div_mul, Nat.add_mul_div_right _ _ (pow16_pos k), Nat.div_eq_of_lt (Nat.mod_lt _ (pow16_pos k)), Nat.zero_add]
theorem mv_lo {S x k j : Nat} (h : j < k) : d16 (mv S x k) j = d16 S j := by
  obtain ⟨e, rfl⟩ : ∃ e, k = j + 1 + e := ⟨k - (j + 1), by omega⟩
  have h1 : mv S x (j + 1 + e) % 65536 ^ (j + 1) = S % 65536 ^ (j + 1) := by
    unfold mv
    rw [Nat.pow_add 65536 (j + 1) e, ← Nat.mul_assoc, Nat.mul_comm (_ * _) (65536 ^ e), ← Nat.mul_assoc, Nat.add_mul_mod_self_right, Nat.mod_mul_right_mod]
  have h2 : ∀ y, d16 y j = y % 65536 ^ (j + 1) / 65536 ^ j := by
    intro y
    unfold d16
    rw [Nat.pow_succ, Nat.mod_mul_right_div_self]
  rw [h2, h2, h1]
theorem mv_d (S x k j : Nat) : d16 (mv S x k) j = if j < k then d16 S j else d16 x j := by
  by_cases h : j < k
  · rw [if_pos h, mv_lo h]
  · rw [if_neg h, mv_hi (by omega)]
theorem mv_lt {S x k n : Nat} (hx : x < 65536 ^ n) (hk : k ≤ n) : mv S x k < 65536 ^ n := by
  unfold mv
  obtain ⟨e, rfl⟩ : ∃ e, n = k + e := ⟨n - k, by omega⟩
  have h1 := Nat.mod_lt S (pow16_pos k)
  have h2 : x / 65536 ^ k < 65536 ^ e := by
    rw [Nat.div_lt_iff_lt_mul (pow16_pos k), ← Nat.pow_add, Nat.add_comm]; exact hx
  have h3 : (x / 65536 ^ k + 1) * 65536 ^ k ≤ 65536 ^ e * 65536 ^ k := Nat.mul_le_mul_right _ h2
  rw [← Nat.pow_add, Nat.add_mul, Nat.one_mul, Nat.add_comm e k] at h3
  omega
theorem mv_all {S x n : Nat} (hx : x < 65536 ^ n) : mv S x n = S % 65536 ^ n := by
  unfold mv
  rw [Nat.div_eq_of_lt hx, Nat.zero_mul, Nat.add_zero]
/-! an array of parts: how many there are, then they, the lowest first -/
def Mu (o : xO) (a L n x : Nat) : Prop := xk o a = (1, L) ∧ n < L ∧ x < 65536 ^ n ∧ xi o a 0 = Int32.ofInt (n : Nat) ∧ ∀ k, k < n → xi o a (k + 1) = Int32.ofInt (d16 x k : Nat)
def Mn (o : xO) (a L x : Nat) : Prop := Mu o a L (n16 x) x
section MU
variable {o o' : xO} {a L n x b m : Nat}
theorem Mu.fr1 (h : Mu o a L n x) (hf : Fr [(b, m)] o o') (hd : b + m ≤ a ∨ a < b) : Mu o' a L n x := by
  have oo : Out [(b, m)] a := Out.one (by omega)
  exact ⟨by rw [hf.k]; exact h.1, h.2.1, h.2.2.1, by rw [hf.i oo]; exact h.2.2.2.1, fun k hk => by rw [hf.i oo]; exact h.2.2.2.2 k hk⟩
theorem Mn.fr1 (h : Mn o a L x) (hf : Fr [(b, m)] o o') (hd : b + m ≤ a ∨ a < b) : Mn o' a L x := Mu.fr1 h hf hd
/-- one part is put -/
theorem Mu.put (h : Mu o a L n x) {k y v : Nat} (hk : k < n) (hy : y < 65536 ^ n) (h1 : ∀ j, j < n → j ≠ k → d16 y j = d16 x j) (h2 : d16 y k = v) : Mu (xpi o a (k + 1) (Int32.ofInt (v : Nat))) a L n y :=
  ⟨h.1, h.2.1, hy, (xpi_ne (fun _ => by omega)).trans h.2.2.2.1, fun j hj => by
    by_cases hjk : j = k
    · subst hjk; rw [xpi_same, h2]
    · rw [xpi_ne (fun _ => by omega), h1 j hj hjk]; exact h.2.2.2.2 j hj⟩
theorem Mu.up1 (S : Nat) {k : Nat} (h : Mu o a L n (mv S x k)) (hk : k < n) (hx : x < 65536 ^ n) : Mu (xpi o a (k + 1) (Int32.ofInt (d16 S k : Nat))) a L n (mv S x (k + 1)) := by
  refine h.put hk (mv_lt hx (by omega)) (fun j _ hjk => ?_) (mv_lo (by omega))
  rw [mv_d, mv_d]
  by_cases h : j < k
  · rw [if_pos h, if_pos (by omega)]
  · rw [if_neg h, if_neg (by omega)]
theorem Mu.dn1 (S : Nat) {k : Nat} (h : Mu o a L n (mv x S (k + 1))) (hk : k < n) (hS : S < 65536 ^ n) : Mu (xpi o a (k + 1) (Int32.ofInt (d16 S k : Nat))) a L n (mv x S k) := by
  refine h.put hk (mv_lt hS (by omega)) (fun j _ hjk => ?_) (mv_hi (by omega))
  rw [mv_d, mv_d]
  by_cases h : j < k
  · rw [if_pos h, if_pos (by omega)]
  · rw [if_neg h, if_neg (by omega)]
theorem d16_big {k : Nat} (h : Mu o a L n x) (hk : n ≤ k) : d16 x k = 0 := d16_zero (Nat.lt_of_lt_of_le h.2.2.1 (Nat.pow_le_pow_right (by decide) hk))
/-- its number of parts is changed, where the number allows it -/
theorem Mu.len (h : Mu o a L n x) {n2 : Nat} (h1 : n2 < L) (h2 : x < 65536 ^ n2) (h3 : n2 ≤ n) : Mu (xpi o a 0 (Int32.ofInt (n2 : Nat))) a L n2 x :=
  ⟨h.1, h1, h2, xpi_same, fun k hk => (xpi_ne (fun _ => by omega)).trans (h.2.2.2.2 k (by omega))⟩
/-- a part more -/
theorem Mu.more (h : Mu o a L n x) {v : Nat} (h1 : n + 1 < L) (hv : v < 65536) : Mu (xpi (xpi o a (n + 1) (Int32.ofInt (v : Nat))) a 0 (Int32.ofInt ((n + 1 : Nat) : Int))) a L (n + 1) (x + v * 65536 ^ n) := by
  have hx := h.2.2.1
  have hd : ∀ k, k < n → d16 (x + v * 65536 ^ n) k = d16 x k := by
    intro k hk
    have h2 := mv_lo (S := x) (x := x + v * 65536 ^ n) hk
    have h3 : mv x (x + v * 65536 ^ n) n = x + v * 65536 ^ n := by
      unfold mv
      rw [Nat.add_mul_div_right _ _ (pow16_pos n), Nat.div_eq_of_lt hx, Nat.zero_add, Nat.mod_eq_of_lt hx]
    rw [h3] at h2
    exact h2
  have hdn : d16 (x + v * 65536 ^ n) n = v := by
    unfold d16
    rw [Nat.add_mul_div_right _ _ (pow16_pos n), Nat.div_eq_of_lt hx, Nat.zero_add, Nat.mod_eq_of_lt hv]
  refine ⟨h.1, h1, ?_, xpi_same, fun k hk => ?_⟩
  · have h3 : (v + 1) * 65536 ^ n ≤ 65536 * 65536 ^ n := Nat.mul_le_mul_right _ hv
    rw [Nat.add_mul, Nat.one_mul] at h3
    rw [Nat.pow_succ, Nat.mul_comm _ 65536]
    omega
  · rw [xpi_ne (fun _ => by omega)]
    by_cases hkn : k = n
    · subst hkn; rw [xpi_same, hdn]
    · rw [xpi_ne (fun _ => by omega), hd k (by omega)]; exact h.2.2.2.2 k (by omega)
end MU
