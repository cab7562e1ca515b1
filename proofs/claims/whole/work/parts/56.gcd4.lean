/-! DIVISORS: takeDecidedSteps. -/
theorem dig_bound {a b : Int} {x y : Nat} (ha : -M31 ≤ a ∧ a ≤ M31) (hb : -M31 ≤ b ∧ b ≤ M31) (k : Nat) : -4294967296 ≤ (a * ((x % 2147483648 ^ k : Nat) : Int) + b * ((y % 2147483648 ^ k : Nat) : Int)) / (2147483648 : Int) ^ k ∧ (a * ((x % 2147483648 ^ k : Nat) : Int) + b * ((y % 2147483648 ^ k : Nat) : Int)) / (2147483648 : Int) ^ k ≤ 4294967296 := by
  unfold M31 at ha hb
  have hP := pow31_pos k
  have hx := Nat.mod_lt x hP
  have hy := Nat.mod_lt y hP
  have eP : (2147483648 : Int) ^ k = ((2147483648 ^ k : Nat) : Int) := (pow_int k).symm
  rw [eP]
  generalize 2147483648 ^ k = P at *
  generalize x % P = u at *
  generalize y % P = v at *
  have m1 : a * (u : Int) ≤ 2147483647 * (u : Int) := Int.mul_le_mul_of_nonneg_right ha.2 (by omega)
  have m2 : -2147483647 * (u : Int) ≤ a * (u : Int) := Int.mul_le_mul_of_nonneg_right ha.1 (by omega)
  have m3 : b * (v : Int) ≤ 2147483647 * (v : Int) := Int.mul_le_mul_of_nonneg_right hb.2 (by omega)
  have m4 : -2147483647 * (v : Int) ≤ b * (v : Int) := Int.mul_le_mul_of_nonneg_right hb.1 (by omega)
  constructor
  · exact Int.le_ediv_of_mul_le (by omega) (by omega)
  · exact Int.le_of_lt_add_one (Int.ediv_lt_of_lt_mul (by omega) (by omega))
theorem dig_sum {a b : Int} {x y Z : Nat} (hZ : (Z : Int) = a * (x : Int) + b * (y : Int)) (k : Nat) : ((a * ((x % 2147483648 ^ k : Nat) : Int) + b * ((y % 2147483648 ^ k : Nat) : Int)) / (2147483648 : Int) ^ k + (a * (dg x k : Int) + b * (dg y k : Int))) % 2147483648 = (dg Z k : Int) ∧
    ((a * ((x % 2147483648 ^ k : Nat) : Int) + b * ((y % 2147483648 ^ k : Nat) : Int)) / (2147483648 : Int) ^ k + (a * (dg x k : Int) + b * (dg y k : Int))) / 2147483648 = (a * ((x % 2147483648 ^ (k + 1) : Nat) : Int) + b * ((y % 2147483648 ^ (k + 1) : Nat) : Int)) / (2147483648 : Int) ^ (k + 1) := by
  have ex : (x : Int) = ((x % 2147483648 ^ (k + 1) : Nat) : Int) + ((x / 2147483648 ^ (k + 1) : Nat) : Int) * (2147483648 : Int) ^ (k + 1) := by
    rw [← pow_int, ← Int.natCast_mul, ← Int.natCast_add]; congr 1
    rw [Nat.mul_comm]; exact (Nat.mod_add_div _ _).symm
  have ey : (y : Int) = ((y % 2147483648 ^ (k + 1) : Nat) : Int) + ((y / 2147483648 ^ (k + 1) : Nat) : Int) * (2147483648 : Int) ^ (k + 1) := by
    rw [← pow_int, ← Int.natCast_mul, ← Int.natCast_add]; congr 1
    rw [Nat.mul_comm]; exact (Nat.mod_add_div _ _).symm
  have dx : ((x % 2147483648 ^ (k + 1) : Nat) : Int) = ((x % 2147483648 ^ k : Nat) : Int) + (dg x k : Int) * (2147483648 : Int) ^ k := by
    rw [dg_step, Int.natCast_add, Int.natCast_mul, pow_int]
  have dy : ((y % 2147483648 ^ (k + 1) : Nat) : Int) = ((y % 2147483648 ^ k : Nat) : Int) + (dg y k : Int) * (2147483648 : Int) ^ k := by
    rw [dg_step, Int.natCast_add, Int.natCast_mul, pow_int]
  refine carry_int (Z := Z) (k := k) (m := a * ((x / 2147483648 ^ (k + 1) : Nat) : Int) + b * ((y / 2147483648 ^ (k + 1) : Nat) : Int)) ?_ ?_
  · rw [dx, dy]; grind
  · rw [hZ]
    conv => lhs; rw [ex, ey]
    grind
theorem dig_big {a b : Int} {u v : Nat} (ha : -M31 ≤ a ∧ a ≤ M31) (hb : -M31 ≤ b ∧ b ≤ M31) (hu : u < 2147483648) (hv : v < 2147483648) : -9223372028264841218 ≤ a * (u : Int) + b * (v : Int) ∧ a * (u : Int) + b * (v : Int) ≤ 9223372028264841218 := by
  unfold M31 at ha hb
  have m1 : a * (u : Int) ≤ 2147483647 * (u : Int) := Int.mul_le_mul_of_nonneg_right ha.2 (by omega)
  have m2 : -2147483647 * (u : Int) ≤ a * (u : Int) := Int.mul_le_mul_of_nonneg_right ha.1 (by omega)
  have m3 : b * (v : Int) ≤ 2147483647 * (v : Int) := Int.mul_le_mul_of_nonneg_right hb.2 (by omega)
  have m4 : -2147483647 * (v : Int) ≤ b * (v : Int) := Int.mul_le_mul_of_nonneg_right hb.1 (by omega)
  omega
theorem c_takeDecidedSteps {o : xO} {D A B X Y : Nat} {a b c d : Int} (hD : IsDs o D) (hA : Rn o (D + 1) A) (hB : Rn o (D + 3) B) (hF : Fac o D a b c d) (hall : -M31 ≤ a ∧ a ≤ M31 ∧ -M31 ≤ b ∧ b ≤ M31 ∧ -M31 ≤ c ∧ c ≤ M31 ∧ -M31 ≤ d ∧ d ≤ M31)
    (hX : (X : Int) = a * A + b * B) (hY : (Y : Int) = c * A + d * B) (hBA : B ≤ A) (hYX : Y ≤ X) (hXA : X ≤ A) :
    Cv y_Divisors_takeDecidedSteps [.ref D] o (fun o' => Fr [(D + 1, 4)] o o' ∧ Rn o' (D + 1) X ∧ Rn o' (D + 3) Y) := by
  have hnA := big_nl hA.2.1
  have hnBA := nl_mono hBA
  have hnXA := nl_mono hXA
  have hnYX := nl_mono hYX
  have hXB : X < BIG := Nat.lt_of_le_of_lt hXA hA.2.1
  have hYB : Y < BIG := Nat.lt_of_le_of_lt hYX hXB
  obtain ⟨a1, a2, b1, b2, c1, c2, d1, d2⟩ := hall
  have oD : Out [(D + 1, 4)] D := by simp only [Out, and_true]; omega
  have oD5 : Out [(D + 1, 4)] (D + 5) := by simp only [Out, and_true]; omega
  have loop : ∀ (m k : Nat) (iw : Int32), k + m = nl A → iw.toInt = (k : Int) → ∀ l7 l9 w, Fr [(D + 1, 4)] o w → IsRow w (D + 1) → IsRow w (D + 3) → xi w (D + 1 + 1) = mx X A k → xf w (D + 1) 1 = .int (Int32.ofInt (nl A : Nat)) → xi w (D + 3 + 1) = mx Y B k → xf w (D + 3) 1 = .int (Int32.ofInt ((max (nl B) k : Nat) : Int)) →
      RW (fun r o' => r = .inl none ∧ (Fr [(D + 1, 4)] o o' ∧ Rn o' (D + 1) X ∧ Rn o' (D + 3) Y)) y_Divisors_takeDecidedSteps (xbk y_Divisors_takeDecidedSteps 16)
        [.ref D, .int (Int32.ofInt (nl A : Nat)), .long (Int64.ofInt ((a * ((A % 2147483648 ^ k : Nat) : Int) + b * ((B % 2147483648 ^ k : Nat) : Int)) / (2147483648 : Int) ^ k)), xj, .long (Int64.ofInt ((c * ((A % 2147483648 ^ k : Nat) : Int) + d * ((B % 2147483648 ^ k : Nat) : Int)) / (2147483648 : Int) ^ k)), xj, .int iw, l7, xj, l9, xj] [] w := by
    intro m
    induction m with
    | zero =>
      intro k iw hk hi l7 l9 w hf r1 r3 x1 u1 x3 u3
      have hDw := hD.fr hf oD oD5
      refine RW.ps 2 rfl ?_
      refine RW.icm (fun _ => ?_) (fun h => ?_)
      · have hkA : k = nl A := by omega
        subst hkA
        rw [mx_end (Nat.le_refl _) (by omega)] at x1
        rw [mx_end hnBA (by omega)] at x3
        rw [show max (nl B) (nl A) = nl A by omega] at u3
        have t1 := c_trim r1 hXB (nl A - nl X) (nl A) (by omega) (by omega)
        rw [sRow_eta x1 u1] at t1
        refine RW.ps 1 rfl ?_
        refine RW.gf hDw.1 hDw.2.1 ?_
        refine RW.cv rfl rfl (xrc_v rfl rfl r1.1) rfl rfl (t1) ?_
        intro o2 ho2
        have f2 : Fr [(D + 1, 4)] o o2 := by subst ho2; exact hf.trans (Fr.up Fr.num (fun b hb => by simp only [Out, and_true] at hb ⊢; omega))
        have rn2 : Rn o2 (D + 1) X := by subst ho2; exact Rn.set r1 hXB
        have r3' : IsRow o2 (D + 3) := by subst ho2; exact IsRow.s r3
        have x3' : xi o2 (D + 3 + 1) = lm Y := by subst ho2; rw [sNum, sRow_i_ne (by omega)]; exact x3
        have u3' : xf o2 (D + 3) 1 = .int (Int32.ofInt (nl A : Nat)) := by subst ho2; rw [sNum, sRow_f_ne (by omega)]; exact u3
        clear ho2
        have hD2 := hD.fr f2 oD oD5
        have t3 := c_trim r3' hYB (nl A - nl Y) (nl A) (by omega) (by omega)
        rw [sRow_eta x3' u3'] at t3
        refine RW.ps 1 rfl ?_
        refine RW.gf hD2.1 hD2.2.2.1 ?_
        refine RW.cv rfl rfl (xrc_v rfl rfl r3'.1) rfl rfl (t3) ?_
        intro o3 ho3
        subst ho3
        exact RW.re rfl rfl ⟨rfl, f2.trans (Fr.up Fr.num (fun b hb => by simp only [Out, and_true] at hb ⊢; omega)), rn2.ne (by omega), Rn.set r3' hYB⟩
      · rw [xi_ge, iu (by omega), hi] at h; omega
    | succ m ih =>
      intro k iw hk hi l7 l9 w hf r1 r3 x1 u1 x3 u3
      have hDw := hD.fr hf oD oD5
      have hFw := hF.fr hf oD
      refine RW.ps 2 rfl ?_
      refine RW.icm (fun h => ?_) (fun _ => ?_)
      · rw [xi_ge, iu (by omega), hi] at h; omega
      refine RW.ps 1 rfl ?_
      refine RW.gf hDw.1 hDw.2.1 ?_
      refine RW.ps 1 rfl ?_
      refine RW.cp rfl rfl (xrc_v rfl rfl r1.1) rfl rfl (c_dg (x := A) r1 hi hA.2.1 (by rw [x1]; exact mx_at (Nat.le_refl k))) ?_
      refine RW.ps 2 rfl ?_
      refine RW.gf hDw.1 hDw.2.2.1 ?_
      refine RW.ps 1 rfl ?_
      refine RW.cp rfl rfl (xrc_v rfl rfl r3.1) rfl rfl (c_dg (x := B) r3 hi hB.2.1 (by rw [x3]; exact mx_at (Nat.le_refl k))) ?_
      have hu := dg_lt A k
      have hv := dg_lt B k
      have g1 := dig_big (a := a) (b := b) ⟨a1, a2⟩ ⟨b1, b2⟩ hu hv
      have g2 := dig_big (a := c) (b := d) ⟨c1, c2⟩ ⟨d1, d2⟩ hu hv
      have e1 := dig_bound (x := A) (y := B) ⟨a1, a2⟩ ⟨b1, b2⟩ k
      have e2 := dig_bound (x := A) (y := B) ⟨c1, c2⟩ ⟨d1, d2⟩ k
      have s1 := dig_sum hX k
      have s2 := dig_sum hY k
      have hC : ∀ C C2 : Int, C = (a * ((A % 2147483648 ^ k : Nat) : Int) + b * ((B % 2147483648 ^ k : Nat) : Int)) / (2147483648 : Int) ^ k → C2 = (c * ((A % 2147483648 ^ k : Nat) : Int) + d * ((B % 2147483648 ^ k : Nat) : Int)) / (2147483648 : Int) ^ k →
        RW (fun r o' => r = .inl none ∧ (Fr [(D + 1, 4)] o o' ∧ Rn o' (D + 1) X ∧ Rn o' (D + 3) Y)) y_Divisors_takeDecidedSteps ((xbk y_Divisors_takeDecidedSteps 16).drop 12) [.ref D, .int (Int32.ofInt (nl A : Nat)), .long (Int64.ofInt C), xj, .long (Int64.ofInt C2), xj, .int iw, .long (Int64.ofInt (dg A k : Nat)), xj, xj, xj] [.long (Int64.ofInt (dg B k : Nat))] w := by
        intro C C2 hC1 hC2
        rw [← hC1] at e1 s1
        rw [← hC2] at e2 s2
        refine RW.ps 3 rfl ?_
        refine RW.gf hDw.1 hFw.1 ?_
        refine RW.ps 3 rfl ?_
        refine RW.gf hDw.1 hFw.2.1 ?_
        refine RW.ps 4 rfl ?_
        refine RW.top (congrArg Value.long ((show Int64.ofInt C + (Int64.ofInt a * Int64.ofInt (dg A k : Nat) + Int64.ofInt b * Int64.ofInt (dg B k : Nat)) = Int64.ofInt (C + (a * (dg A k : Nat) + b * (dg B k : Nat))) by rw [li_mul, li_mul, li_add, li_add]))) ?_
        generalize hS1 : C + (a * (dg A k : Nat) + b * (dg B k : Nat)) = S1 at *
        refine RW.ps 3 rfl ?_
        refine RW.gf hDw.1 hFw.2.2.1 ?_
        refine RW.ps 3 rfl ?_
        refine RW.gf hDw.1 hFw.2.2.2 ?_
        refine RW.ps 4 rfl ?_
        refine RW.top (congrArg Value.long ((show Int64.ofInt C2 + (Int64.ofInt c * Int64.ofInt (dg A k : Nat) + Int64.ofInt d * Int64.ofInt (dg B k : Nat)) = Int64.ofInt (C2 + (c * (dg A k : Nat) + d * (dg B k : Nat))) by rw [li_mul, li_mul, li_add, li_add]))) ?_
        generalize hS2 : C2 + (c * (dg A k : Nat) + d * (dg B k : Nat)) = S2 at *
        refine RW.ps 2 rfl ?_
        refine RW.weak (lv0 := [.ref D, .int (Int32.ofInt (nl A : Nat)), .long (Int64.ofInt S1), xj, .long (Int64.ofInt S2), xj, .int iw, xj, xj, xj, xj]) ⟨Or.inr rfl, Or.inr rfl, Or.inr rfl, Or.inl rfl, Or.inr rfl, Or.inl rfl, Or.inr rfl, Or.inl rfl, Or.inl rfl, Or.inl rfl, Or.inl rfl, trivial⟩ ?_
        refine RW.sk [.ref D] rfl ?_
        refine RW.gf hDw.1 hDw.2.1 ?_
        refine RW.ps 2 rfl ?_
        refine RW.cv rfl rfl (xrc_v rfl rfl r1.1) rfl rfl (c_put r1 hi x1 u1 (by omega) (by omega)) ?_
        intro o2 ho2
        rw [mx_step s1.1, show max (nl A) (k + 1) = nl A by omega] at ho2
        have f2 : Fr [(D + 1, 4)] o o2 := by subst ho2; exact hf.trans (Fr.up Fr.row (fun b hb => by simp only [Out, and_true] at hb ⊢; omega))
        have r1' : IsRow o2 (D + 1) := by subst ho2; exact IsRow.s r1
        have r3' : IsRow o2 (D + 3) := by subst ho2; exact IsRow.s r3
        have x1' : xi o2 (D + 1 + 1) = mx X A (k + 1) := by subst ho2; exact sRow_i
        have u1' : xf o2 (D + 1) 1 = .int (Int32.ofInt (nl A : Nat)) := by subst ho2; exact sRow_f
        have x3' : xi o2 (D + 3 + 1) = mx Y B k := by subst ho2; rw [sRow_i_ne (by omega)]; exact x3
        have u3' : xf o2 (D + 3) 1 = .int (Int32.ofInt ((max (nl B) k : Nat) : Int)) := by subst ho2; rw [sRow_f_ne (by omega)]; exact u3
        clear ho2
        have hD2 := hD.fr f2 oD oD5
        refine RW.ps 1 rfl ?_
        refine RW.gf hD2.1 hD2.2.2.1 ?_
        refine RW.ps 2 rfl ?_
        refine RW.cv rfl rfl (xrc_v rfl rfl r3'.1) rfl rfl (c_put r3' hi x3' u3' (by omega) (by omega)) ?_
        intro o3 ho3
        rw [mx_step s2.1, show max (max (nl B) k) (k + 1) = max (nl B) (k + 1) by omega] at ho3
        have f3 : Fr [(D + 1, 4)] o o3 := by subst ho3; exact f2.trans (Fr.up Fr.row (fun b hb => by simp only [Out, and_true] at hb ⊢; omega))
        have r1'' : IsRow o3 (D + 1) := by subst ho3; exact IsRow.s r1'
        have r3'' : IsRow o3 (D + 3) := by subst ho3; exact IsRow.s r3'
        have x1'' : xi o3 (D + 1 + 1) = mx X A (k + 1) := by subst ho3; rw [sRow_i_ne (by omega)]; exact x1'
        have u1'' : xf o3 (D + 1) 1 = .int (Int32.ofInt (nl A : Nat)) := by subst ho3; rw [sRow_f_ne (by omega)]; exact u1'
        have x3'' : xi o3 (D + 3 + 1) = mx Y B (k + 1) := by subst ho3; exact sRow_i
        have u3'' : xf o3 (D + 3) 1 = .int (Int32.ofInt ((max (nl B) (k + 1) : Nat) : Int)) := by subst ho3; exact sRow_f
        clear ho3
        refine RW.ps 9 rfl ?_
        refine RW.go ?_
        refine RW.weak (lv0 := [.ref D, .int (Int32.ofInt (nl A : Nat)), .long (Int64.ofInt (S1 / 2147483648)), xj, .long (Int64.ofInt (S2 / 2147483648)), xj, .int (iw + 1), xj, xj, xj, xj]) ⟨Or.inr rfl, Or.inr rfl, Or.inr (congrArg Value.long (li_shr (by omega) (by omega)).symm), Or.inl rfl, Or.inr (congrArg Value.long (li_shr (by omega) (by omega)).symm), Or.inl rfl, Or.inr rfl, Or.inl rfl, Or.inl rfl, Or.inl rfl, Or.inl rfl, trivial⟩ ?_
        refine RW.sk [] rfl ?_
        have := ih (k + 1) (iw + 1) (by omega) (i_succ hi (by omega)) xj xj o3 f3 r1'' r3'' x1'' u1'' x3'' u3''
        rw [← s1.2, ← s2.2] at this
        exact this
      refine RW.weak (lv0 := [.ref D, .int (Int32.ofInt (nl A : Nat)), .long (Int64.ofInt ((a * ((A % 2147483648 ^ k : Nat) : Int) + b * ((B % 2147483648 ^ k : Nat) : Int)) / (2147483648 : Int) ^ k)), xj, .long (Int64.ofInt ((c * ((A % 2147483648 ^ k : Nat) : Int) + d * ((B % 2147483648 ^ k : Nat) : Int)) / (2147483648 : Int) ^ k)), xj, .int iw, .long (Int64.ofInt (dg A k : Nat)), xj, xj, xj]) ⟨Or.inr rfl, Or.inr rfl, Or.inr rfl, Or.inl rfl, Or.inr rfl, Or.inl rfl, Or.inr rfl, Or.inr rfl, Or.inl rfl, Or.inl rfl, Or.inl rfl, trivial⟩ ?_
      refine RW.sk [.long (Int64.ofInt (dg B k : Nat))] rfl ?_
      exact hC _ _ rfl rfl
  refine RW.ps 1 rfl ?_
  refine RW.gf hD.1 hD.2.1 ?_
  refine RW.gf hA.1.1 hA.2.2.2 ?_
  refine RW.ps 7 rfl ?_
  refine RW.weak (lv0 := [.ref D, .int (Int32.ofInt (nl A : Nat)), .long 0, xj, .long 0, xj, .int 0, xj, xj, xj, xj]) ⟨Or.inr rfl, Or.inr rfl, Or.inr rfl, Or.inl rfl, Or.inr rfl, Or.inl rfl, Or.inr rfl, Or.inl rfl, Or.inl rfl, Or.inl rfl, Or.inl rfl, trivial⟩ ?_
  refine RW.sk [] rfl ?_
  have := loop (nl A) 0 0 (Nat.zero_add _) rfl xj xj o (Fr.refl _ _) hA.1 hB.1 (by rw [mx_0]; exact hA.2.2.1) hA.2.2.2 (by rw [mx_0]; exact hB.2.2.1) (by rw [Nat.max_zero]; exact hB.2.2.2)
  rw [Nat.pow_zero, Nat.mod_one, Nat.mod_one, show (2147483648 : Int) ^ 0 = 1 from rfl, show ((0 : Nat) : Int) = 0 from rfl, Int.mul_zero, Int.mul_zero, Int.mul_zero, Int.mul_zero] at this
  exact this
