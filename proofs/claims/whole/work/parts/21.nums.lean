/-! NUMBERS: 31 bits a limb. -/
theorem ii_toInt32 (z : Int) : (Int64.ofInt z).toInt32 = Int32.ofInt z := by
  apply Int32.toInt_inj.mp
  rw [Int64.toInt_toInt32, Int64.toInt_ofInt, Int32.toInt_ofInt]
  exact Int.bmod_bmod_of_dvd (by decide)
theorem li_mask (z : Int) : Int64.ofInt z &&& 2147483647 = Int64.ofInt (z % 2147483648) := by
  apply Int64.toBitVec_inj.mp
  show (BitVec.ofInt 64 z &&& 2147483647#64) = BitVec.ofInt 64 (z % 2147483648)
  apply BitVec.eq_of_toNat_eq
  rw [BitVec.toNat_and, BitVec.toNat_ofInt, BitVec.toNat_ofInt]
  have e1 : (2147483647#64).toNat = 2 ^ 31 - 1 := rfl
  rw [e1, Nat.and_two_pow_sub_one_eq_mod]
  omega
theorem li_and (z : Int) : (Int64.ofInt z &&& 2147483647).toInt32 = Int32.ofInt (z % 2147483648) := by rw [li_mask, ii_toInt32]
theorem li_shr {z : Int} (h1 : -9223372036854775808 ≤ z) (h2 : z < 9223372036854775808) : Int64.ofInt z >>> ((31 : Int32).toInt64 &&& 63) = Int64.ofInt (z / 2147483648) := by
  apply Int64.toInt_inj.mp
  have e0 : ((((31 : Int32).toInt64 &&& 63).toBitVec).smod 64).toNat = 31 := by decide +kernel
  have e : (Int64.ofInt z >>> ((31 : Int32).toInt64 &&& 63)).toInt = (Int64.ofInt z).toInt >>> 31 := by
    rw [← e0]
    exact BitVec.toInt_sshiftRight ..
  rw [e, Int.shiftRight_eq_div_pow, Int64.toInt_ofInt_of_le (by omega) (by omega), Int64.toInt_ofInt_of_le (by omega) (by omega)]
  rfl
theorem li_add (a b : Int) : Int64.ofInt a + Int64.ofInt b = Int64.ofInt (a + b) := (Int64.ofInt_add a b).symm
theorem li_sub (a b : Int) : Int64.ofInt a - Int64.ofInt b = Int64.ofInt (a - b) := (Int64.ofInt_sub a b).symm
theorem li_mul (a b : Int) : Int64.ofInt a * Int64.ofInt b = Int64.ofInt (a * b) := (Int64.ofInt_mul a b).symm
theorem ii_add (a b : Int) : Int32.ofInt a + Int32.ofInt b = Int32.ofInt (a + b) := (Int32.ofInt_add a b).symm
theorem ii_sub (a b : Int) : Int32.ofInt a - Int32.ofInt b = Int32.ofInt (a - b) := (Int32.ofInt_sub a b).symm
theorem ii_mul (a b : Int) : Int32.ofInt a * Int32.ofInt b = Int32.ofInt (a * b) := (Int32.ofInt_mul a b).symm
theorem ii_l {z : Int} (h1 : -2147483648 ≤ z) (h2 : z < 2147483648) : (Int32.ofInt z).toInt64 = Int64.ofInt z := by
  apply Int64.toInt_inj.mp
  rw [Int32.toInt_toInt64, Int32.toInt_ofInt_of_le (by omega) (by omega), Int64.toInt_ofInt_of_le (by omega) (by omega)]
theorem ii_toInt {z : Int} (h1 : -2147483648 ≤ z) (h2 : z < 2147483648) : (Int32.ofInt z).toInt = z := Int32.toInt_ofInt_of_le (by omega) (by omega)
theorem li_toInt {z : Int} (h1 : -9223372036854775808 ≤ z) (h2 : z < 9223372036854775808) : (Int64.ofInt z).toInt = z := Int64.toInt_ofInt_of_le (by omega) (by omega)
theorem ii_lt {a b : Int} (h1 : -2147483648 ≤ a) (h2 : a < 2147483648) (h3 : -2147483648 ≤ b) (h4 : b < 2147483648) : Int32.ofInt a < Int32.ofInt b ↔ a < b := by
  rw [Int32.lt_iff_toInt_lt, ii_toInt h1 h2, ii_toInt h3 h4]
theorem ii_le {a b : Int} (h1 : -2147483648 ≤ a) (h2 : a < 2147483648) (h3 : -2147483648 ≤ b) (h4 : b < 2147483648) : Int32.ofInt a ≤ Int32.ofInt b ↔ a ≤ b := by
  rw [Int32.le_iff_toInt_le, ii_toInt h1 h2, ii_toInt h3 h4]
theorem ii_eq {a b : Int} (h1 : -2147483648 ≤ a) (h2 : a < 2147483648) (h3 : -2147483648 ≤ b) (h4 : b < 2147483648) : Int32.ofInt a = Int32.ofInt b ↔ a = b := by
  rw [← Int32.toInt_inj, ii_toInt h1 h2, ii_toInt h3 h4]
theorem li_lt {a b : Int} (h1 : -9223372036854775808 ≤ a) (h2 : a < 9223372036854775808) (h3 : -9223372036854775808 ≤ b) (h4 : b < 9223372036854775808) : Int64.ofInt a < Int64.ofInt b ↔ a < b := by
  rw [Int64.lt_iff_toInt_lt, li_toInt h1 h2, li_toInt h3 h4]
theorem li_eq {a b : Int} (h1 : -9223372036854775808 ≤ a) (h2 : a < 9223372036854775808) (h3 : -9223372036854775808 ≤ b) (h4 : b < 9223372036854775808) : Int64.ofInt a = Int64.ofInt b ↔ a = b := by
  rw [← Int64.toInt_inj, li_toInt h1 h2, li_toInt h3 h4]
theorem li_cmp {a b : Int} (h1 : -9223372036854775808 ≤ a) (h2 : a < 9223372036854775808) (h3 : -9223372036854775808 ≤ b) (h4 : b < 9223372036854775808) : lg_cmp (Int64.ofInt a) (Int64.ofInt b) = if b < a then 1 else if a = b then 0 else -1 := by
  unfold lg_cmp
  have e1 : (Int64.ofInt a > Int64.ofInt b) ↔ b < a := li_lt h3 h4 h1 h2
  have e2 := li_eq h1 h2 h3 h4
  by_cases h : b < a
  · rw [if_pos h, if_pos (e1.mpr h)]
  · rw [if_neg h, if_neg (fun z => h (e1.mp z))]
    by_cases h' : a = b
    · rw [if_pos h', if_pos (e2.mpr h')]
    · rw [if_neg h', if_neg (fun z => h' (e2.mp z))]
/-! limbs of a number -/
def dg (x k : Nat) : Nat := x / 2147483648 ^ k % 2147483648
def nbit (x : Nat) : Nat := if x = 0 then 0 else x.log2 + 1
def nl (x : Nat) : Nat := (nbit x + 30) / 31
theorem nbit_le {x k : Nat} : nbit x ≤ k ↔ x < 2 ^ k := by
  unfold nbit
  by_cases h : x = 0
  · rw [if_pos h, h]
    exact ⟨fun _ => Nat.two_pow_pos k, fun _ => Nat.zero_le _⟩
  · rw [if_neg h, ← Nat.log2_lt h]
    exact Iff.rfl
theorem b31 (n : Nat) : (2147483648 : Nat) ^ n = 2 ^ (31 * n) := by rw [show (2147483648 : Nat) = 2 ^ 31 from rfl, ← Nat.pow_mul]
theorem nl_le {x n : Nat} : nl x ≤ n ↔ x < 2147483648 ^ n := by
  rw [b31, ← nbit_le]
  unfold nl
  omega
theorem dg_lt (x k : Nat) : dg x k < 2147483648 := Nat.mod_lt _ (by decide)
theorem dg_zero {x k : Nat} (h : x < 2147483648 ^ k) : dg x k = 0 := by
  unfold dg
  rw [Nat.div_eq_of_lt h]
theorem pow31_pos (k : Nat) : 0 < (2147483648 : Nat) ^ k := Nat.pow_pos (by decide)
theorem dg_zero' {x k : Nat} (h : nl x ≤ k) : dg x k = 0 := dg_zero (nl_le.mp h)
theorem dg_step (x k : Nat) : x % 2147483648 ^ (k + 1) = x % 2147483648 ^ k + dg x k * 2147483648 ^ k := by
  rw [Nat.mod_pow_succ, Nat.mul_comm (dg x k)]; rfl
theorem dg_top {x n : Nat} (h : nl x = n + 1) : dg x n ≠ 0 := by
  have h1 : ¬ x < 2147483648 ^ n := fun z => by have := nl_le.mpr z; omega
  have h2 : x < 2147483648 ^ (n + 1) := nl_le.mp (by omega)
  unfold dg
  have h3 : x / 2147483648 ^ n < 2147483648 := by
    rw [Nat.div_lt_iff_lt_mul (pow31_pos n), Nat.mul_comm, ← Nat.pow_succ]; exact h2
  rw [Nat.mod_eq_of_lt h3]
  have := Nat.div_pos (Nat.not_lt.mp h1) (pow31_pos n)
  omega
theorem nl_zero {x : Nat} : nl x = 0 ↔ x = 0 := by
  constructor
  · intro h
    have := nl_le.mp (Nat.le_of_eq h)
    simp at this
    exact this
  · rintro rfl; decide
theorem nl_540 {x : Nat} (h : x < 2147483648 ^ 540) : nl x ≤ 540 := nl_le.mpr h
theorem mod_all {x n : Nat} (h : x < 2147483648 ^ n) : x % 2147483648 ^ n = x := Nat.mod_eq_of_lt h
/-- numbers are the same when their limbs are -/
theorem dg_ext {x y n : Nat} (hx : x < 2147483648 ^ n) (hy : y < 2147483648 ^ n) (h : ∀ k, k < n → dg x k = dg y k) : x = y := by
  have : ∀ m, m ≤ n → x % 2147483648 ^ m = y % 2147483648 ^ m := by
    intro m
    induction m with
    | zero => intro _; simp [Nat.mod_one]
    | succ m ih => intro hm; rw [dg_step, dg_step, ih (by omega), h m (by omega)]
  rw [← mod_all hx, ← mod_all hy]
  exact this n (Nat.le_refl _)
/-- a carry's step: T is what has been taken in so far, Z the whole -/
theorem carry_step {Z T T' d m P : Int} (hP : 0 < P) (hT : T' = T + d * P) (hZ : Z = T' + m * (P * 2147483648)) : (T / P + d) % 2147483648 = Z / P % 2147483648 ∧ (T / P + d) / 2147483648 = T' / (P * 2147483648) := by
  have h1 : T' / P = T / P + d := by rw [hT]; exact Int.add_mul_ediv_right _ _ (by omega)
  have h2 : Z / P = T' / P + m * 2147483648 := by
    rw [hZ, show m * (P * 2147483648) = (m * 2147483648) * P by rw [Int.mul_comm P, ← Int.mul_assoc]]
    exact Int.add_mul_ediv_right _ _ (by omega)
  constructor
  · rw [h2, h1, Int.add_mul_emod_self_right]
  · rw [← h1]; exact (Int.ediv_ediv_of_nonneg (Int.le_of_lt hP))
/-- .. in natural numbers: the limb that comes out, and the next carry -/
theorem carry_nat {Z T T' d k : Nat} (hT : T' = T + d * 2147483648 ^ k) (hZ : ∃ m, Z = T' + m * 2147483648 ^ (k + 1)) : (T / 2147483648 ^ k + d) % 2147483648 = dg Z k ∧ (T / 2147483648 ^ k + d) / 2147483648 = T' / 2147483648 ^ (k + 1) := by
  obtain ⟨m, hZ⟩ := hZ
  have hP := pow31_pos k
  have h1 : T' / 2147483648 ^ k = T / 2147483648 ^ k + d := by rw [hT]; exact Nat.add_mul_div_right _ _ hP
  have h2 : Z / 2147483648 ^ k = T' / 2147483648 ^ k + m * 2147483648 := by
    rw [hZ, Nat.pow_succ, show m * (2147483648 ^ k * 2147483648) = (m * 2147483648) * 2147483648 ^ k by rw [Nat.mul_comm (2147483648 ^ k), ← Nat.mul_assoc]]
    exact Nat.add_mul_div_right _ _ hP
  constructor
  · unfold dg; rw [h2, h1, Nat.add_mul_mod_self_right]
  · rw [← h1, Nat.pow_succ, Nat.div_div_eq_div_mul]
