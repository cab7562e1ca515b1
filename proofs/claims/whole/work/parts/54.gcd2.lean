/-! DIVISORS: its fields; stepFits. -/
def IsDs (o : xO) (D : Nat) : Prop := xk o D = (3, 6) ∧ xf o D 0 = .ref (D + 1) ∧ xf o D 1 = .ref (D + 3) ∧ xf o D 2 = .ref (D + 5) ∧ IsDv o (D + 5)
def Fac (o : xO) (D : Nat) (a b c d : Int) : Prop := xf o D 3 = .long (Int64.ofInt a) ∧ xf o D 4 = .long (Int64.ofInt b) ∧ xf o D 5 = .long (Int64.ofInt c) ∧ xf o D 6 = .long (Int64.ofInt d)
theorem IsDs.fr {S : List (Nat × Nat)} {o o' : xO} {D : Nat} (h : IsDs o D) (hf : Fr S o o') (h0 : Out S D) (h5 : Out S (D + 5)) : IsDs o' D :=
  ⟨by rw [hf.k]; exact h.1, by rw [hf.f h0]; exact h.2.1, by rw [hf.f h0]; exact h.2.2.1, by rw [hf.f h0]; exact h.2.2.2.1, h.2.2.2.2.fr hf h5⟩
theorem Fac.fr {S : List (Nat × Nat)} {o o' : xO} {D : Nat} {a b c d : Int} (h : Fac o D a b c d) (hf : Fr S o o') (h0 : Out S D) : Fac o' D a b c d :=
  ⟨by rw [hf.f h0]; exact h.1, by rw [hf.f h0]; exact h.2.1, by rw [hf.f h0]; exact h.2.2.1, by rw [hf.f h0]; exact h.2.2.2⟩
/-- a long field of Divisors is put -/
theorem IsDs.pf {o : xO} {D k : Nat} {v : Value} (h : IsDs o D) (hk : 3 ≤ k) : IsDs (xpf o D k v) D :=
  ⟨h.1, (xpf_ne (fun _ => by omega)).trans h.2.1, (xpf_ne (fun _ => by omega)).trans h.2.2.1, (xpf_ne (fun _ => by omega)).trans h.2.2.2.1, h.2.2.2.2.fr Fr.pf (by simp only [Out, and_true]; omega)⟩
theorem lcmp_gtZ {a b : Int} (h1 : -9223372036854775808 ≤ a) (h2 : a < 9223372036854775808) (h3 : -9223372036854775808 ≤ b) (h4 : b < 9223372036854775808) : xcd .gt (lg_cmp (Int64.ofInt a) (Int64.ofInt b)) 0 ↔ b < a := by
  rw [xi_gt, i0, cmp_toInt h1 h2 h3 h4]
  by_cases h : b < a
  · rw [if_pos h]; exact ⟨fun _ => h, fun _ => by decide⟩
  · rw [if_neg h]
    refine ⟨fun z => absurd z ?_, fun z => absurd z h⟩
    split <;> decide
theorem lcmp_leZ {a b : Int} (h1 : -9223372036854775808 ≤ a) (h2 : a < 9223372036854775808) (h3 : -9223372036854775808 ≤ b) (h4 : b < 9223372036854775808) : xcd .le (lg_cmp (Int64.ofInt a) (Int64.ofInt b)) 0 ↔ a ≤ b := by
  have h := lcmp_gtZ h1 h2 h3 h4
  rw [xi_gt] at h
  rw [xi_le]
  omega
theorem lcmp_neZ {a b : Int} (h1 : -9223372036854775808 ≤ a) (h2 : a < 9223372036854775808) (h3 : -9223372036854775808 ≤ b) (h4 : b < 9223372036854775808) : xcd .ne (lg_cmp (Int64.ofInt a) (Int64.ofInt b)) 0 ↔ a ≠ b := by
  rw [xi_ne, i0, cmp_toInt h1 h2 h3 h4]
  by_cases h : b < a
  · rw [if_pos h]; exact ⟨fun _ => by omega, fun _ => by decide⟩
  · rw [if_neg h]
    by_cases h' : a = b
    · rw [if_pos h']; exact ⟨fun z => absurd rfl z, fun z => absurd h' z⟩
    · rw [if_neg h']; exact ⟨fun _ => h', fun _ => by decide⟩
theorem labs {z : Int} (h1 : -9223372036854775808 < z) (h2 : z < 9223372036854775808) : (if 0 < Int64.ofInt z then Int64.ofInt z else -Int64.ofInt z) = Int64.ofInt (z.natAbs : Int) := by
  have e : (0 < Int64.ofInt z) ↔ 0 < z := by rw [l0]; exact li_lt (by decide) (by decide) (by omega) h2
  by_cases h : 0 < z
  · rw [if_pos (e.mpr h)]; congr 1; omega
  · rw [if_neg (fun k => h (e.mp k)), ← Int64.ofInt_neg]; congr 1; omega
theorem c_stepFits {o : xO} {D : Nat} {a b c d q : Int} (hD : IsDs o D) (hF : Fac o D a b c d) (ha : -M31 ≤ a ∧ a ≤ M31 ∧ -M31 ≤ b ∧ b ≤ M31 ∧ -M31 ≤ c ∧ c ≤ M31 ∧ -M31 ≤ d ∧ d ≤ M31) (hq0 : 0 ≤ q) (hq1 : q < 9223372036854775808) :
    Cq y_Divisors_stepFits [.ref D, .long (Int64.ofInt q)] o (fun v o' => (v = .int 0 ∧ o' = o) ∨ (v = .int 1 ∧ (-M31 ≤ a - q * c ∧ a - q * c ≤ M31 ∧ -M31 ≤ b - q * d ∧ b - q * d ≤ M31) ∧ Fr [(D, 1)] o o' ∧ IsDs o' D ∧ Fac o' D c d (a - q * c) (b - q * d))) := by
  unfold M31 at ha ⊢
  have h10 : q ≤ 2147483647 → RW (fun r o' => ∃ v, r = .inl (some v) ∧ ((v = .int 0 ∧ o' = o) ∨ (v = .int 1 ∧ (-2147483647 ≤ a - q * c ∧ a - q * c ≤ 2147483647 ∧ -2147483647 ≤ b - q * d ∧ b - q * d ≤ 2147483647) ∧ Fr [(D, 1)] o o' ∧ IsDs o' D ∧ Fac o' D c d (a - q * c) (b - q * d)))) y_Divisors_stepFits (xbk y_Divisors_stepFits 10) [.ref D, .long (Int64.ofInt q), xj, xj, xj, xj, xj] [] o := by
    intro hq
    have m1 : q * c ≤ 2147483647 * 2147483647 := Int.le_trans (Int.mul_le_mul_of_nonneg_left (show c ≤ 2147483647 by omega) hq0) (Int.mul_le_mul_of_nonneg_right hq (by decide))
    have m2 : -(q * c) ≤ 2147483647 * 2147483647 := by
      rw [← Int.mul_neg]
      exact Int.le_trans (Int.mul_le_mul_of_nonneg_left (show -c ≤ 2147483647 by omega) hq0) (Int.mul_le_mul_of_nonneg_right hq (by decide))
    have m3 : q * d ≤ 2147483647 * 2147483647 := Int.le_trans (Int.mul_le_mul_of_nonneg_left (show d ≤ 2147483647 by omega) hq0) (Int.mul_le_mul_of_nonneg_right hq (by decide))
    have m4 : -(q * d) ≤ 2147483647 * 2147483647 := by
      rw [← Int.mul_neg]
      exact Int.le_trans (Int.mul_le_mul_of_nonneg_left (show -d ≤ 2147483647 by omega) hq0) (Int.mul_le_mul_of_nonneg_right hq (by decide))
    generalize hx : a - q * c = x
    generalize hy : b - q * d = y
    have h58 : ∀ l3 l5, RW (fun r o' => ∃ v, r = .inl (some v) ∧ ((v = .int 0 ∧ o' = o) ∨ (v = .int 1 ∧ (-2147483647 ≤ x ∧ x ≤ 2147483647 ∧ -2147483647 ≤ y ∧ y ≤ 2147483647) ∧ Fr [(D, 1)] o o' ∧ IsDs o' D ∧ Fac o' D c d x y))) y_Divisors_stepFits (xbk y_Divisors_stepFits 58) [.ref D, .long (Int64.ofInt q), xj, l3, xj, l5, xj] [] o := by
      intro l3 l5
      refine RW.ps 1 rfl ?_
      exact RW.re rfl rfl ⟨_, rfl, Or.inl ⟨rfl, rfl⟩⟩
    refine RW.ps 1 rfl ?_
    refine RW.gf hD.1 hF.1 ?_
    refine RW.ps 2 rfl ?_
    refine RW.gf hD.1 hF.2.2.1 ?_
    refine RW.ps 4 rfl ?_
    refine RW.gf hD.1 hF.2.1 ?_
    refine RW.ps 2 rfl ?_
    refine RW.gf hD.1 hF.2.2.2 ?_
    refine RW.ps 4 rfl ?_
    refine RW.weak (lv0 := [.ref D, .long (Int64.ofInt q), xj, .long (Int64.ofInt x), xj, .long (Int64.ofInt y), xj]) ⟨Or.inr rfl, Or.inr rfl, Or.inl rfl, Or.inr (congrArg Value.long (by rw [li_mul, li_sub, hx])), Or.inl rfl, Or.inr (congrArg Value.long (by rw [li_mul, li_sub, hy])), Or.inl rfl, trivial⟩ ?_
    refine RW.sk [.long (Int64.ofInt x)] (by rw [li_mul, li_sub, hx]) ?_
    refine RW.mabs (by decide) ?_
    refine RW.top (congrArg Value.long (labs (by omega) (by omega))) ?_
    refine RW.ps 2 rfl ?_
    refine RW.ifc (fun k => ?_) (fun k => ?_)
    · exact h58 _ _
    have k : ¬ (2147483647 : Int) < (x.natAbs : Int) := fun z => k ((lcmp_gtZ (a := (x.natAbs : Int)) (b := 2147483647) (by omega) (by omega) (by decide) (by decide)).mpr z)
    refine RW.ps 1 rfl ?_
    refine RW.mabs (by decide) ?_
    refine RW.top (congrArg Value.long (labs (by omega) (by omega))) ?_
    refine RW.ps 2 rfl ?_
    refine RW.ifc (fun k2 => ?_) (fun k2 => ?_)
    · have k2 := (lcmp_leZ (a := (y.natAbs : Int)) (b := 2147483647) (by omega) (by omega) (by decide) (by decide)).mp k2
      refine RW.ps 2 rfl ?_
      refine RW.gf hD.1 hF.2.2.1 ?_
      refine RW.pf hD.1 rfl rfl ?_
      have d1 := hD.pf (k := 3) (v := .long (Int64.ofInt c)) (by decide)
      have f1 : Fr [(D, 1)] o (xpf o D 3 (.long (Int64.ofInt c))) := Fr.pf
      have e1 : xf (xpf o D 3 (.long (Int64.ofInt c))) D 3 = .long (Int64.ofInt c) := xpf_same
      have e2 : xf (xpf o D 3 (.long (Int64.ofInt c))) D 6 = .long (Int64.ofInt d) := (xpf_ne (fun _ => by decide)).trans hF.2.2.2
      generalize xpf o D 3 (.long (Int64.ofInt c)) = o1 at *
      refine RW.ps 2 rfl ?_
      refine RW.gf d1.1 e2 ?_
      refine RW.pf d1.1 rfl rfl ?_
      have d2 := d1.pf (k := 4) (v := .long (Int64.ofInt d)) (by decide)
      have f2 : Fr [(D, 1)] o (xpf o1 D 4 (.long (Int64.ofInt d))) := f1.trans Fr.pf
      have e3 : xf (xpf o1 D 4 (.long (Int64.ofInt d))) D 3 = .long (Int64.ofInt c) := (xpf_ne (fun _ => by decide)).trans e1
      have e4 : xf (xpf o1 D 4 (.long (Int64.ofInt d))) D 4 = .long (Int64.ofInt d) := xpf_same
      generalize xpf o1 D 4 (.long (Int64.ofInt d)) = o2 at *
      refine RW.ps 2 rfl ?_
      refine RW.pf d2.1 rfl rfl ?_
      have d3 := d2.pf (k := 5) (v := .long (Int64.ofInt x)) (by decide)
      have f3 : Fr [(D, 1)] o (xpf o2 D 5 (.long (Int64.ofInt x))) := f2.trans Fr.pf
      have e5 : xf (xpf o2 D 5 (.long (Int64.ofInt x))) D 3 = .long (Int64.ofInt c) := (xpf_ne (fun _ => by decide)).trans e3
      have e6 : xf (xpf o2 D 5 (.long (Int64.ofInt x))) D 4 = .long (Int64.ofInt d) := (xpf_ne (fun _ => by decide)).trans e4
      have e7 : xf (xpf o2 D 5 (.long (Int64.ofInt x))) D 5 = .long (Int64.ofInt x) := xpf_same
      generalize xpf o2 D 5 (.long (Int64.ofInt x)) = o3 at *
      refine RW.ps 2 rfl ?_
      refine RW.pf d3.1 rfl rfl ?_
      refine RW.ps 1 rfl ?_
      refine RW.re rfl rfl ⟨_, rfl, Or.inr ⟨rfl, ⟨by omega, by omega, by omega, by omega⟩, f3.trans Fr.pf, d3.pf (by decide), (xpf_ne (fun _ => by decide)).trans e5, (xpf_ne (fun _ => by decide)).trans e6, (xpf_ne (fun _ => by decide)).trans e7, xpf_same⟩⟩
    · exact h58 _ _
  refine RW.ps 3 rfl ?_
  refine RW.ifc (fun k => ?_) (fun k => ?_)
  · have k := (lcmp_leZ (a := q) (b := 2147483647) (by omega) hq1 (by decide) (by decide)).mp k
    exact h10 k
  · refine RW.ps 1 rfl ?_
    exact RW.re rfl rfl ⟨_, rfl, Or.inl ⟨rfl, rfl⟩⟩
