/-! ROWS: becomeProduct, becomeRaised, lower. -/
theorem i_add {i j : Int32} {a b : Nat} (hi : i.toInt = (a : Int)) (hj : j.toInt = (b : Int)) (h : a + b < 2147483648) : (i + j).toInt = ((a + b : Nat) : Int) := by
  rw [Int32.toInt_add, hi, hj, Int.bmod_eq_of_le (by omega) (by omega)]
  omega
theorem lm_0 (j : Nat) : lm 0 j = 0 := by unfold lm dg; simp
/-- what one more limb of x gives to x*y -/
theorem prod_step {x y i : Nat} : x % 2147483648 ^ (i + 1) * y = x % 2147483648 ^ i * y + dg x i * y * 2147483648 ^ i := by
  rw [dg_step, Nat.add_mul, Nat.mul_right_comm]
theorem c_becomeProduct {o : xO} {r a b v x y : Nat} (hr : Rn o r v) (ha : Rn o a x) (hb : Rn o b y) (hra : a ≠ r) (hrb : b ≠ r) (hn : nl x + nl y ≤ 538) : Cv y_Row_becomeProduct [.ref r, .ref a, .ref b] o (fun o' => o' = sNum o r (x * y)) := by
  have hnx := big_nl ha.2.1
  have hny := big_nl hb.2.1
  have hxl := nl_le.mp (Nat.le_refl (nl x))
  have hyl := nl_le.mp (Nat.le_refl (nl y))
  have hlt : ∀ i, x % 2147483648 ^ i * y < 2147483648 ^ (i + nl y) := by
    intro i
    rw [Nat.pow_add]
    have h1 := Nat.mod_lt x (pow31_pos i)
    have h2 : x % 2147483648 ^ i * y ≤ x % 2147483648 ^ i * 2147483648 ^ nl y := Nat.mul_le_mul_left _ (Nat.le_of_lt hyl)
    have h3 : x % 2147483648 ^ i * 2147483648 ^ nl y < 2147483648 ^ i * 2147483648 ^ nl y := Nat.mul_lt_mul_of_pos_right h1 (pow31_pos _)
    omega
  have hZb : x * y < BIG := by
    have h1 := hlt (nl x)
    rw [mod_all hxl] at h1
    exact Nat.lt_of_lt_of_le h1 (Nat.pow_le_pow_right (by decide) (by omega))
  refine RW.ps 1 rfl ?_
  refine RW.cv rfl rfl (xrc_v rfl rfl hr.1.1) rfl rfl (c_clear hr) ?_
  intro o1 ho1
  subst ho1
  refine RW.ps 2 rfl ?_
  have outer : ∀ n i (iw : Int32), i + n = nl x → iw.toInt = (i : Int) → ∀ u d1 d2 d3 w, u ≤ i + nl y → nl (x % 2147483648 ^ i * y) ≤ u → w = sRow o r (lm (x % 2147483648 ^ i * y)) u → RW (fun r' o' => r' = .inl none ∧ o' = sNum o r (x * y)) y_Row_becomeProduct (xbk y_Row_becomeProduct 6)
      [.ref r, .ref a, .ref b, .int iw, d1, xj, d2, xj, d3] [] w := by
    intro n
    induction n with
    | zero =>
      intro i iw hk hi u d1 d2 d3 w hu hu2 hw
      subst hw
      refine RW.ps 2 rfl ?_
      refine RW.gf ha.1.1 ((sRow_f_ne hra 1).trans ha.2.2.2) ?_
      refine RW.icm (fun _ => ?_) (fun h1 => ?_)
      · refine RW.ps 1 rfl ?_
        have hi' : i = nl x := by omega
        subst hi'
        rw [mod_all hxl] at hu2 ⊢
        refine RW.cv rfl rfl (xrc_v rfl rfl (IsRow.s hr.1).1) rfl rfl (c_trim hr.1 hZb (u - nl (x * y)) u (by omega) (by omega)) ?_
        intro o' ho'
        exact RW.re rfl rfl ⟨rfl, ho'⟩
      · rw [xi_ge, hi, iu (by omega)] at h1; omega
    | succ n ih =>
      intro i iw hk hi u d1 d2 d3 w hu hu2 hw
      subst hw
      refine RW.ps 2 rfl ?_
      refine RW.gf ha.1.1 ((sRow_f_ne hra 1).trans ha.2.2.2) ?_
      refine RW.icm (fun h1 => ?_) (fun _ => ?_)
      · rw [xi_ge, hi, iu (by omega)] at h1; omega
      refine RW.ps 2 rfl ?_
      refine RW.cp rfl rfl (xrc_v rfl rfl (IsRow.s ha.1).1) rfl rfl (c_dg (IsRow.s ha.1) hi ha.2.1 (by rw [sRow_i_ne (by omega), ha.2.2.1]; rfl)) ?_
      refine RW.ps 5 rfl ?_
      have hV := hlt i
      have hZ := hlt (i + 1)
      have hstep := prod_step (x := x) (y := y) (i := i)
      have hde := dg_lt x i
      generalize hVd : x % 2147483648 ^ i * y = V at hV hstep hu2
      generalize hZd : x % 2147483648 ^ (i + 1) * y = Z at hZ hstep
      generalize hed : dg x i = e at hstep hde
      -- the carry ahead of place j
      have inner : ∀ n j (jw : Int32) (cw : Int64), j + n = nl y → jw.toInt = (j : Int) → cw = Int64.ofInt (((V % 2147483648 ^ (i + j) + e * (y % 2147483648 ^ j) * 2147483648 ^ i) / 2147483648 ^ (i + j) : Nat) : Int) → ∀ u w, u ≤ i + nl y → w = sRow o r (mx Z V (i + j)) u →
          RW (fun r' o' => r' = .inl none ∧ o' = sNum o r (x * y)) y_Row_becomeProduct (xbk y_Row_becomeProduct 27) [.ref r, .ref a, .ref b, .int iw, .long (Int64.ofInt (e : Int)), xj, .long cw, xj, .int jw] [] w := by
        intro n
        induction n with
        | zero =>
          intro j jw cw hk2 hj hcw u w hu hw
          subst hw
          have hj' : j = nl y := by omega
          subst hj'
          refine RW.ps 2 rfl ?_
          refine RW.gf hb.1.1 ((sRow_f_ne hrb 1).trans hb.2.2.2) ?_
          refine RW.icm (fun _ => ?_) (fun h1 => ?_)
          · refine RW.ps 3 rfl ?_
            refine RW.gf hb.1.1 ((sRow_f_ne hrb 1).trans hb.2.2.2) ?_
            refine RW.ps 2 rfl ?_
            have hTZ : V % 2147483648 ^ (i + nl y) + e * (y % 2147483648 ^ nl y) * 2147483648 ^ i = Z := by
              rw [mod_all hV, mod_all hyl]; exact hstep.symm
            rw [hTZ] at hcw
            have hcl : Z / 2147483648 ^ (i + nl y) < 2147483648 := by
              rw [Nat.div_lt_iff_lt_mul (pow31_pos _), Nat.mul_comm, ← Nat.pow_succ]
              rw [show (i + nl y).succ = i + 1 + nl y by omega]
              exact hZ
            have hdz : dg Z (i + nl y) = Z / 2147483648 ^ (i + nl y) := Nat.mod_eq_of_lt hcl
            subst hcw
            refine RW.cv rfl rfl (xrc_v rfl rfl (IsRow.s hr.1).1) rfl rfl (c_put (IsRow.s hr.1) (i_add hi (iu (by omega)) (by omega)) sRow_i sRow_f (by omega) (by omega)) ?_
            intro o' ho'
            refine RW.ps 1 rfl ?_
            refine RW.go ?_
            refine ih (i + 1) (iw + 1) (by omega) (i_succ hi (by omega)) (max u (i + nl y + 1)) _ _ _ _ (by omega) ?_ ?_
            · rw [hZd]
              have := nl_le.mpr hZ
              omega
            · rw [ho', sRow_s, hZd, mx_step (by rw [hdz]; omega)]
              congr 1
              exact mx_end (by have := nl_le.mpr hV; omega) (by have := nl_le.mpr hZ; omega)
          · rw [xi_ge, hj, iu (by omega)] at h1; omega
        | succ n ih2 =>
          intro j jw cw hk2 hj hcw u w hu hw
          subst hw
          have hdv := dg_lt V (i + j)
          have hdy := dg_lt y j
          have hPi := pow31_pos i
          have hPj := pow31_pos j
          have hPij := pow31_pos (i + j)
          have hPe : 2147483648 ^ (i + j) = 2147483648 ^ i * 2147483648 ^ j := Nat.pow_add _ _ _
          have hcb : (V % 2147483648 ^ (i + j) + e * (y % 2147483648 ^ j) * 2147483648 ^ i) / 2147483648 ^ (i + j) < 2147483648 := by
            rw [Nat.div_lt_iff_lt_mul hPij]
            have h1 := Nat.mod_lt V hPij
            have h2 := Nat.mod_lt y hPj
            have h3 : e * (y % 2147483648 ^ j) * 2147483648 ^ i ≤ 2147483647 * (2147483648 ^ (i + j)) := by
              rw [hPe, Nat.mul_comm (2147483648 ^ i), ← Nat.mul_assoc]
              exact Nat.mul_le_mul_right _ (Nat.mul_le_mul (by omega) (by omega))
            omega
          have hT : V % 2147483648 ^ (i + (j + 1)) + e * (y % 2147483648 ^ (j + 1)) * 2147483648 ^ i = (V % 2147483648 ^ (i + j) + e * (y % 2147483648 ^ j) * 2147483648 ^ i) + (dg V (i + j) + e * dg y j) * 2147483648 ^ (i + j) := by
            rw [← Nat.add_assoc, dg_step, dg_step, Nat.mul_add, Nat.add_mul, Nat.add_mul, hPe]
            rw [show e * (dg y j * 2147483648 ^ j) * 2147483648 ^ i = e * dg y j * (2147483648 ^ i * 2147483648 ^ j) by
              rw [← Nat.mul_assoc, Nat.mul_assoc (e * dg y j), Nat.mul_comm (2147483648 ^ j)]]
            omega
          have hZ2 : ∃ m, Z = (V % 2147483648 ^ (i + (j + 1)) + e * (y % 2147483648 ^ (j + 1)) * 2147483648 ^ i) + m * 2147483648 ^ (i + j + 1) := by
            refine ⟨V / 2147483648 ^ (i + j + 1) + e * (y / 2147483648 ^ (j + 1)), ?_⟩
            have h1 := Nat.div_add_mod V (2147483648 ^ (i + j + 1))
            have h2 := Nat.div_add_mod y (2147483648 ^ (j + 1))
            rw [hstep]
            conv => lhs; rw [← h1, ← h2]
            rw [show i + (j + 1) = i + j + 1 by omega, Nat.mul_add, Nat.add_mul, Nat.add_mul, Nat.mul_comm (2147483648 ^ (i + j + 1))]
            rw [show e * (2147483648 ^ (j + 1) * (y / 2147483648 ^ (j + 1))) * 2147483648 ^ i = e * (y / 2147483648 ^ (j + 1)) * 2147483648 ^ (i + j + 1) by
              rw [show i + j + 1 = (j + 1) + i by omega, Nat.pow_add 2147483648 (j + 1) i]; ac_rfl]
            omega
          obtain ⟨e1, e2⟩ := carry_nat hT hZ2
          have hem : e * dg y j ≤ 2147483647 * 2147483647 := Nat.mul_le_mul (by omega) (by omega)
          generalize (V % 2147483648 ^ (i + j) + e * (y % 2147483648 ^ j) * 2147483648 ^ i) / 2147483648 ^ (i + j) = c at hcb e1 e2 hcw
          subst hcw
          refine RW.ps 2 rfl ?_
          refine RW.gf hb.1.1 ((sRow_f_ne hrb 1).trans hb.2.2.2) ?_
          refine RW.icm (fun h1 => ?_) (fun _ => ?_)
          · rw [xi_ge, hj, iu (by omega)] at h1; omega
          refine RW.ps 5 rfl ?_
          have hij := i_add hi hj (by omega)
          refine RW.cp rfl rfl (xrc_v rfl rfl (IsRow.s hr.1).1) rfl rfl (c_dg (x := V) (IsRow.s hr.1) hij (Nat.lt_of_lt_of_le hV (Nat.pow_le_pow_right (by decide) (by omega))) (by rw [sRow_i]; exact mx_at (Nat.le_refl _))) ?_
          refine RW.ps 3 rfl ?_
          refine RW.cp rfl rfl (xrc_v rfl rfl (IsRow.s hb.1).1) rfl rfl (c_dg (IsRow.s hb.1) hj hb.2.1 (by rw [sRow_i_ne (by omega), hb.2.2.1]; rfl)) ?_
          refine RW.ps 3 rfl ?_
          rw [li_mul, li_add, li_add]
          refine RW.ps 6 rfl ?_
          have e3 : (c : Int) + ((dg V (i + j) : Int) + (e : Int) * (dg y j : Int)) = ((c + (dg V (i + j) + e * dg y j) : Nat) : Int) := by
            rw [← Int.natCast_mul]; omega
          rw [e3]
          refine RW.cv rfl rfl (xrc_v rfl rfl (IsRow.s hr.1).1) rfl rfl (c_put (IsRow.s hr.1) hij sRow_i sRow_f (by omega) (by omega)) ?_
          intro o' ho'
          refine RW.ps 3 rfl ?_
          rw [li_shr (by omega) (by omega)]
          refine RW.ps 2 rfl ?_
          refine RW.go ?_
          refine ih2 (j + 1) (jw + 1) _ (by omega) (i_succ hj (by omega)) ?_ (max u (i + j + 1)) o' (by omega) ?_
          · rw [show i + (j + 1) = i + j + 1 by omega] at e2 ⊢
            rw [← e2]; congr 1
          · rw [ho', sRow_s, mx_step (by omega)]; rfl
      refine inner (nl y) 0 0 0 (Nat.zero_add _) rfl ?_ u _ (by omega) ?_
      · rw [Nat.pow_zero, Nat.mod_one, Nat.mul_zero, Nat.zero_mul, Nat.add_zero, Nat.add_zero, Nat.div_eq_of_lt (Nat.mod_lt _ (pow31_pos i))]; decide
      · congr 1
        funext k
        unfold mx
        by_cases hk3 : k < i + 0
        · rw [if_pos hk3]
          unfold lm
          congr 2
          unfold dg
          rw [hstep]
          -- below place i nothing changes
          have hp : 2147483648 ^ i = 2147483648 ^ k * (2147483648 * 2147483648 ^ (i - k - 1)) := by
            rw [← Nat.pow_succ', ← Nat.pow_add]; congr 1; omega
          rw [hp, show e * y * (2147483648 ^ k * (2147483648 * 2147483648 ^ (i - k - 1))) = 2147483648 ^ k * (2147483648 * (e * y * 2147483648 ^ (i - k - 1))) by
            rw [← Nat.mul_assoc, Nat.mul_comm (e * y), Nat.mul_assoc, ← Nat.mul_assoc (e * y), Nat.mul_comm (e * y) 2147483648, Nat.mul_assoc], Nat.add_mul_div_left _ _ (pow31_pos k), Nat.add_mul_mod_self_left]
        · rw [if_neg hk3]
  refine RW.weak (lv0 := [.ref r, .ref a, .ref b, .int 0, xj, xj, xj, xj, xj]) ⟨Or.inr rfl, Or.inr rfl, Or.inr rfl, Or.inr rfl, Or.inl rfl, Or.inl rfl, Or.inl rfl, Or.inl rfl, Or.inl rfl, trivial⟩ ?_
  refine outer (nl x) 0 0 (Nat.zero_add _) rfl 0 _ _ _ _ (Nat.zero_le _) ?_ ?_
  · rw [Nat.pow_zero, Nat.mod_one, Nat.zero_mul]; decide
  · rw [Nat.pow_zero, Nat.mod_one, Nat.zero_mul]; rfl
