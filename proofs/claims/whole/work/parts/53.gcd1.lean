/-! DIVISORS: Lehmer's steps are Euclid's. -/
theorem lstep {P U L l u X Y q : Int} (hP : 0 < P) (hl : 0 < l) (hu : 0 < u) (hU : 0 ≤ U) (hL : 0 ≤ L) (hq1 : q = U / l) (hq2 : q = L / u) (hX1 : X ≤ U * P) (hX2 : L * P ≤ X) (hY1 : l * P ≤ Y) (hY2 : Y ≤ u * P) :
    0 ≤ q ∧ (L - q * u) * P ≤ X - q * Y ∧ X - q * Y ≤ (U - q * l) * P ∧ 0 ≤ L - q * u ∧ 0 ≤ U - q * l ∧ 0 ≤ X - q * Y ∧ X - q * Y < Y ∧ 0 < Y := by
  have q0 : 0 ≤ q := by rw [hq1]; exact Int.ediv_nonneg hU (by omega)
  have a1 : q * u ≤ L := by rw [hq2]; exact Int.ediv_mul_le L (by omega)
  have a2 : q * l ≤ U := by rw [hq1]; exact Int.ediv_mul_le U (by omega)
  have a3 : U < (q + 1) * l := by rw [hq1]; exact Int.lt_ediv_add_one_mul_self U hl
  have b1 : q * Y ≤ q * (u * P) := Int.mul_le_mul_of_nonneg_left hY2 q0
  have b2 : q * (l * P) ≤ q * Y := Int.mul_le_mul_of_nonneg_left hY1 q0
  have e1 : (L - q * u) * P = L * P - q * (u * P) := by rw [Int.sub_mul, Int.mul_assoc]
  have e2 : (U - q * l) * P = U * P - q * (l * P) := by rw [Int.sub_mul, Int.mul_assoc]
  have c1 : 0 ≤ (L - q * u) * P := Int.mul_nonneg (by omega) (by omega)
  have a4 : U - q * l < l := by rw [Int.add_mul] at a3; omega
  have c2 : (U - q * l) * P < l * P := Int.mul_lt_mul_of_pos_right a4 hP
  have c3 : 0 < l * P := Int.mul_pos hl hP
  refine ⟨q0, by omega, by omega, by omega, by omega, by omega, by omega, by omega⟩
def M31 : Int := 2147483647
def M62 : Int := 4611686018427387904
/-- what stands between the four factors, the heads, and the two numbers that they make -/
def LI (A B P a b c d h s X Y : Int) : Prop :=
  (0 ≤ h ∧ h ≤ M62 ∧ 0 ≤ s ∧ s ≤ M62) ∧ (0 ≤ h + a ∧ 0 ≤ h + b) ∧
  (-M31 ≤ a ∧ a ≤ M31 ∧ -M31 ≤ b ∧ b ≤ M31 ∧ -M31 ≤ c ∧ c ≤ M31 ∧ -M31 ≤ d ∧ d ≤ M31) ∧
  ((0 ≤ a ∧ b ≤ 0 ∧ c ≤ 0 ∧ 0 ≤ d ∧ (h + b) * P ≤ X ∧ X ≤ (h + a) * P ∧ (s + c) * P ≤ Y ∧ Y ≤ (s + d) * P) ∨
   (a ≤ 0 ∧ 0 ≤ b ∧ 0 ≤ c ∧ d ≤ 0 ∧ (h + a) * P ≤ X ∧ X ≤ (h + b) * P ∧ (s + d) * P ≤ Y ∧ Y ≤ (s + c) * P)) ∧
  (X = a * A + b * B ∧ Y = c * A + d * B) ∧ (0 ≤ Y ∧ Y ≤ X ∧ X ≤ A) ∧ (X * Y ≤ A * B ∧ (b = 0 ∨ 2 * (X * Y) ≤ A * B)) ∧
  (∀ t : Int, (t ∣ X ∧ t ∣ Y) ↔ (t ∣ A ∧ t ∣ B))
theorem lstep_dvd {X Y q : Int} (t : Int) : (t ∣ Y ∧ t ∣ X - q * Y) ↔ (t ∣ X ∧ t ∣ Y) := by
  constructor
  · intro ⟨h1, h2⟩
    have h3 := Int.dvd_add h2 (Int.dvd_trans h1 ⟨q, Int.mul_comm q Y⟩)
    rw [Int.sub_add_cancel] at h3
    exact ⟨h3, h1⟩
  · intro ⟨h1, h2⟩
    exact ⟨h2, Int.dvd_sub h1 (Int.dvd_trans h2 ⟨q, Int.mul_comm q Y⟩)⟩
theorem lstep_less {X Y Z q : Int} (q0 : 0 ≤ q) (h0 : 0 ≤ Z) (hZ : Z = X - q * Y) (h1 : Z < Y) (h2 : Y ≤ X) : 2 * (Y * Z) ≤ X * Y := by
  have hq : 1 ≤ q := by
    rcases Int.lt_or_le q 1 with h | h
    · have : q = 0 := by omega
      rw [this, Int.zero_mul] at hZ; omega
    · exact h
  have h3 : 1 * Y ≤ q * Y := Int.mul_le_mul_of_nonneg_right hq (by omega)
  have h4 : 2 * Z ≤ X := by omega
  have h5 := Int.mul_le_mul_of_nonneg_left h4 (show 0 ≤ Y by omega)
  rw [show 2 * (Y * Z) = Y * (2 * Z) by rw [← Int.mul_assoc, Int.mul_comm 2 Y, Int.mul_assoc], Int.mul_comm X Y]; exact h5
theorem LI.step {A B P a b c d h s X Y q : Int} (H : LI A B P a b c d h s X Y) (hP : 0 < P) (hl : 0 < s + c) (hu : 0 < s + d) (hq1 : q = (h + a) / (s + c)) (hq2 : q = (h + b) / (s + d))
    (hc1 : -M31 ≤ a - q * c) (hc2 : a - q * c ≤ M31) (hd1 : -M31 ≤ b - q * d) (hd2 : b - q * d ≤ M31) : LI A B P c d (a - q * c) (b - q * d) s (h - q * s) Y (X - q * Y) := by
  obtain ⟨⟨i1, i2, i3, i4⟩, ⟨i5, i6⟩, ⟨i7, i8, i9, i10, i11, i12, i13, i14⟩, hs, ⟨hX, hY⟩, ⟨j1, j2, j3⟩, ⟨k1, -⟩, hg⟩ := H
  have eY : X - q * Y = (a - q * c) * A + (b - q * d) * B := by rw [hX, hY]; grind
  have es1 : h - q * s + (a - q * c) = h + a - q * (s + c) := by rw [Int.mul_add]; omega
  have es2 : h - q * s + (b - q * d) = h + b - q * (s + d) := by rw [Int.mul_add]; omega
  have fin : 0 ≤ q → 0 ≤ h - q * s → 0 ≤ X - q * Y → X - q * Y < Y →
      ((0 ≤ c ∧ d ≤ 0 ∧ a - q * c ≤ 0 ∧ 0 ≤ b - q * d ∧ (s + d) * P ≤ Y ∧ Y ≤ (s + c) * P ∧ (h - q * s + (a - q * c)) * P ≤ X - q * Y ∧ X - q * Y ≤ (h - q * s + (b - q * d)) * P) ∨
       (c ≤ 0 ∧ 0 ≤ d ∧ 0 ≤ a - q * c ∧ b - q * d ≤ 0 ∧ (s + c) * P ≤ Y ∧ Y ≤ (s + d) * P ∧ (h - q * s + (b - q * d)) * P ≤ X - q * Y ∧ X - q * Y ≤ (h - q * s + (a - q * c)) * P)) →
      LI A B P c d (a - q * c) (b - q * d) s (h - q * s) Y (X - q * Y) := by
    intro q0 f1 f2 f3 f4
    have f5 : 0 ≤ q * s := Int.mul_nonneg q0 i3
    have f6 := lstep_less q0 f2 rfl f3 j2
    have f7 : 0 ≤ Y * (X - q * Y) := Int.mul_nonneg j1 f2
    exact ⟨⟨i3, i4, f1, by omega⟩, ⟨by omega, by omega⟩, ⟨i11, i12, i13, i14, hc1, hc2, hd1, hd2⟩, f4, ⟨hY, eY⟩, ⟨f2, by omega, by omega⟩, ⟨by omega, Or.inr (by omega)⟩, fun t => (lstep_dvd t).trans (hg t)⟩
  rcases hs with ⟨s1, s2, s3, s4, s5, s6, s7, s8⟩ | ⟨s1, s2, s3, s4, s5, s6, s7, s8⟩
  · obtain ⟨q0, r1, r2, r3, r4, r5, r6, r7⟩ := lstep hP hl hu i5 i6 hq1 hq2 s6 s5 s7 s8
    have m1 : q * c ≤ 0 := Int.mul_nonpos_of_nonneg_of_nonpos q0 s3
    have m2 : 0 ≤ q * d := Int.mul_nonneg q0 s4
    refine fin q0 ?_ r5 r6 (Or.inr ⟨s3, s4, by omega, by omega, s7, s8, ?_, ?_⟩)
    · omega
    · rw [es2]; exact r1
    · rw [es1]; exact r2
  · obtain ⟨q0, r1, r2, r3, r4, r5, r6, r7⟩ := lstep hP hu hl i6 i5 hq2 hq1 s6 s5 s7 s8
    have m1 : 0 ≤ q * c := Int.mul_nonneg q0 s3
    have m2 : q * d ≤ 0 := Int.mul_nonpos_of_nonneg_of_nonpos q0 s4
    refine fin q0 ?_ r5 r6 (Or.inl ⟨s3, s4, by omega, by omega, s7, s8, ?_, ?_⟩)
    · omega
    · rw [es1]; exact r1
    · rw [es2]; exact r2
/-- where the steps begin -/
theorem LI.start {A B : Nat} {p : Nat} (hBA : B ≤ A) (hA : A / 2 ^ p < 2 ^ 62) : LI A B ((2 ^ p : Nat) : Int) 1 0 0 1 ((A / 2 ^ p : Nat) : Int) ((B / 2 ^ p : Nat) : Int) A B := by
  have hB : B / 2 ^ p ≤ A / 2 ^ p := Nat.div_le_div_right hBA
  have hP := Nat.two_pow_pos p
  have a1 := Nat.div_mul_le_self A (2 ^ p)
  have a2 := Nat.lt_div_mul_add (a := A) hP
  have b1 := Nat.div_mul_le_self B (2 ^ p)
  have b2 := Nat.lt_div_mul_add (a := B) hP
  have e : ∀ x y : Nat, (x : Int) * (y : Int) = ((x * y : Nat) : Int) := fun x y => (Int.natCast_mul x y).symm
  generalize A / 2 ^ p = h at *
  generalize B / 2 ^ p = s at *
  generalize 2 ^ p = P at *
  refine ⟨⟨by omega, by unfold M62; omega, by omega, by unfold M62; omega⟩, ⟨by omega, by omega⟩, by unfold M31; decide, Or.inl ⟨by decide, by decide, by decide, by decide, ?_, ?_, ?_, ?_⟩, ⟨by omega, by omega⟩, ⟨by omega, by omega, by omega⟩, ⟨Int.le_refl _, Or.inl rfl⟩, fun t => Iff.rfl⟩
  · rw [Int.add_zero, e]; omega
  · rw [Int.add_mul, e]; omega
  · rw [Int.add_zero, e]; omega
  · rw [Int.add_mul, e]; omega
