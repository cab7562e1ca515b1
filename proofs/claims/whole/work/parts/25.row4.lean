/-! ROWS: take, scale, becomeLong. -/
theorem dg_int (x k : Nat) : (dg x k : Int) = (x : Int) / (2147483648 : Int) ^ k % 2147483648 := by
  unfold dg
  rw [Int.natCast_emod, Int.natCast_ediv, Int.natCast_pow]
  rfl
theorem pow31_int (k : Nat) : (0 : Int) < (2147483648 : Int) ^ k := Int.pow_pos (by decide)
theorem mod_int (x k : Nat) : ((x % 2147483648 ^ k : Nat) : Int) = (x : Int) % (2147483648 : Int) ^ k := by
  rw [Int.natCast_emod, Int.natCast_pow]; rfl
/-- a carry's step for a number that is Z at the end, T being what the lowest k limbs have given -/
theorem carry_int {Z k : Nat} {T T' d m : Int} (hT : T' = T + d * (2147483648 : Int) ^ k) (hZ : (Z : Int) = T' + m * (2147483648 : Int) ^ (k + 1)) : (T / (2147483648 : Int) ^ k + d) % 2147483648 = (dg Z k : Int) ∧ (T / (2147483648 : Int) ^ k + d) / 2147483648 = T' / (2147483648 : Int) ^ (k + 1) := by
  obtain ⟨h1, h2⟩ := carry_step (Z := (Z : Int)) (pow31_int k) hT (m := m) (by rw [hZ, Int.pow_succ])
  exact ⟨by rw [h1, dg_int], by rw [h2, Int.pow_succ]⟩
theorem c_take {o : xO} {a b x y : Nat} (ha : Rn o a x) (hb : Rn o b y) (hab : b ≠ a) (hs : y ≤ x) : Cv y_Row_take [.ref a, .ref b] o (fun o' => o' = sNum o a (x - y)) := by
  have hnx := big_nl ha.2.1
  have hzb : x - y < BIG := Nat.lt_of_le_of_lt (Nat.sub_le _ _) ha.2.1
  have hnz : nl (x - y) ≤ nl x := nl_le.mpr (Nat.lt_of_le_of_lt (Nat.sub_le _ _) (nl_le.mp (Nat.le_refl (nl x))))
  refine RW.ps 1 rfl ?_
  refine RW.gf ha.1.1 ha.2.2.2 ?_
  refine RW.ps 5 rfl ?_
  have loop : ∀ n k (i : Int32) (cw : Int64), k + n = nl x → i.toInt = (k : Int) → cw = Int64.ofInt ((((x % 2147483648 ^ k : Nat) : Int) - ((y % 2147483648 ^ k : Nat) : Int)) / (2147483648 : Int) ^ k) → ∀ w, w = sRow o a (mx (x - y) x k) (nl x) → RW (fun r' o' => r' = .inl none ∧ o' = sNum o a (x - y)) y_Row_take (xbk y_Row_take 10)
      [.ref a, .ref b, .int (Int32.ofInt (nl x)), .long cw, xj, .int i] [] w := by
    intro n
    induction n with
    | zero =>
      intro k i cw hk hi hcw w hw
      subst hw
      refine RW.ps 2 rfl ?_
      refine RW.icm (fun _ => ?_) (fun h1 => ?_)
      · refine RW.ps 1 rfl ?_
        rw [mx_end (by omega) (by omega)]
        refine RW.cv rfl rfl (xrc_v rfl rfl (IsRow.s ha.1).1) rfl rfl (c_trim ha.1 hzb (nl x - nl (x - y)) (nl x) (by omega) (by omega)) ?_
        intro o' ho'
        exact RW.re rfl rfl ⟨rfl, ho'⟩
      · rw [xi_ge, hi, iu (by omega)] at h1; omega
    | succ n ih =>
      intro k i cw hk hi hcw w hw
      subst hw
      have hP := pow31_int k
      have hx1 := Nat.mod_lt x (pow31_pos k)
      have hy1 := Nat.mod_lt y (pow31_pos k)
      have hdx := dg_lt x k
      have hdy := dg_lt y k
      have hc1 : -1 ≤ (((x % 2147483648 ^ k : Nat) : Int) - ((y % 2147483648 ^ k : Nat) : Int)) / (2147483648 : Int) ^ k := by
        rw [Int.le_ediv_iff_mul_le hP]
        have : ((y % 2147483648 ^ k : Nat) : Int) < (2147483648 : Int) ^ k := by rw [mod_int]; exact Int.emod_lt_of_pos _ hP
        omega
      have hc2 : (((x % 2147483648 ^ k : Nat) : Int) - ((y % 2147483648 ^ k : Nat) : Int)) / (2147483648 : Int) ^ k < 1 := by
        rw [Int.ediv_lt_iff_lt_mul hP]
        have : ((x % 2147483648 ^ k : Nat) : Int) < (2147483648 : Int) ^ k := by rw [mod_int]; exact Int.emod_lt_of_pos _ hP
        omega
      obtain ⟨e1, e2⟩ := carry_int (Z := x - y) (k := k) (T := ((x % 2147483648 ^ k : Nat) : Int) - ((y % 2147483648 ^ k : Nat) : Int)) (T' := ((x % 2147483648 ^ (k + 1) : Nat) : Int) - ((y % 2147483648 ^ (k + 1) : Nat) : Int)) (d := (dg x k : Int) - (dg y k : Int)) (m := ((x / 2147483648 ^ (k + 1) : Nat) : Int) - ((y / 2147483648 ^ (k + 1) : Nat) : Int))
        (by
          rw [dg_step, dg_step, Int.natCast_add, Int.natCast_add, Int.natCast_mul, Int.natCast_mul, Int.natCast_pow, Int.sub_mul]
          show _ = _ + (_ * (2147483648 : Int) ^ k - _ * (2147483648 : Int) ^ k)
          have : (((2147483648 : Nat) : Int)) = 2147483648 := rfl
          rw [this]
          omega)
        (by
          have h1 := Nat.div_add_mod x (2147483648 ^ (k + 1))
          have h2 := Nat.div_add_mod y (2147483648 ^ (k + 1))
          have e3 : ((2147483648 : Int)) ^ (k + 1) = ((2147483648 ^ (k + 1) : Nat) : Int) := by rw [Int.natCast_pow]; rfl
          rw [Int.sub_mul, e3, ← Int.natCast_mul, ← Int.natCast_mul, Nat.mul_comm, Nat.mul_comm (y / _)]
          omega)
      generalize (((x % 2147483648 ^ k : Nat) : Int) - ((y % 2147483648 ^ k : Nat) : Int)) / (2147483648 : Int) ^ k = c at hc1 hc2 e1 e2 hcw
      subst hcw
      refine RW.ps 2 rfl ?_
      refine RW.icm (fun h1 => ?_) (fun _ => ?_)
      · rw [xi_ge, hi, iu (by omega)] at h1; omega
      · refine RW.ps 3 rfl ?_
        refine RW.cp rfl rfl (xrc_v rfl rfl (IsRow.s ha.1).1) rfl rfl (c_dg (IsRow.s ha.1) hi ha.2.1 (by rw [sRow_i]; exact mx_at (Nat.le_refl k))) ?_
        refine RW.ps 2 rfl ?_
        refine RW.cp rfl rfl (xrc_v rfl rfl (IsRow.s hb.1).1) rfl rfl (c_dg (IsRow.s hb.1) hi hb.2.1 (by rw [sRow_i_ne (by omega), hb.2.2.1]; rfl)) ?_
        refine RW.ps 2 rfl ?_
        rw [li_sub, li_add]
        refine RW.ps 4 rfl ?_
        refine RW.cv rfl rfl (xrc_v rfl rfl (IsRow.s ha.1).1) rfl rfl (c_put (IsRow.s ha.1) hi sRow_i sRow_f (by omega) (by omega)) ?_
        intro o' ho'
        refine RW.ps 3 rfl ?_
        rw [li_shr (by omega) (by omega)]
        refine RW.ps 2 rfl ?_
        refine RW.go ?_
        refine ih (k + 1) (i + 1) _ (by omega) (i_succ hi (by omega)) ?_ o' ?_
        · rw [← e2]
        · rw [ho', sRow_s, mx_step e1, show max (nl x) (k + 1) = nl x by omega]
  refine loop _ 0 0 0 (Nat.zero_add _) rfl ?_ o ?_
  · rw [Nat.pow_zero, Nat.mod_one, Nat.mod_one]; decide
  · rw [mx_0]; exact ha.eta.symm
theorem c_scale {o : xO} {a x f Z : Nat} {fw aw : Int32} {az : Int} (ha : Rn o a x) (hf : fw.toInt = (f : Int)) (haz : aw.toInt = az) (hZ : (Z : Int) = (x : Int) * f + az) (hs : Z < BIG) (hn538 : nl x ≤ 538) : Cv y_Row_scale [.ref a, .int fw, .int aw] o (fun o' => o' = sNum o a Z) := by
  have hf2 : f < 2147483648 := by have := fw.toInt_lt; omega
  have ha1 : -2147483648 ≤ az := by have := aw.le_toInt; omega
  have ha2 : az < 2147483648 := by have := aw.toInt_lt; omega
  have hnz : nl Z ≤ nl x + 1 := by
    rw [nl_le, Nat.pow_succ]
    have h1 := nl_le.mp (Nat.le_refl (nl x))
    generalize 2147483648 ^ nl x = P at h1
    have h2 : x * f ≤ (P - 1) * 2147483647 := Nat.mul_le_mul (by omega) (by omega)
    rw [← Int.natCast_mul] at hZ
    omega
  refine RW.ps 1 rfl ?_
  refine RW.gf ha.1.1 ha.2.2.2 ?_
  refine RW.ps 6 rfl ?_
  have loop : ∀ n k (i : Int32) (cw : Int64), k + n = nl x + 1 → i.toInt = (k : Int) → cw = Int64.ofInt ((az + f * ((x % 2147483648 ^ k : Nat) : Int)) / (2147483648 : Int) ^ k) → ∀ w, w = sRow o a (mx Z x k) (max (nl x) k) → RW (fun r' o' => r' = .inl none ∧ o' = sNum o a Z) y_Row_scale (xbk y_Row_scale 12)
      [.ref a, .int fw, .int aw, .int (Int32.ofInt (nl x)), .long cw, xj, .int i] [] w := by
    intro n
    induction n with
    | zero =>
      intro k i cw hk hi hcw w hw
      subst hw
      refine RW.ps 2 rfl ?_
      refine RW.icm (fun _ => ?_) (fun h1 => ?_)
      · refine RW.ps 1 rfl ?_
        rw [mx_end (by omega) (by omega)]
        refine RW.cv rfl rfl (xrc_v rfl rfl (IsRow.s ha.1).1) rfl rfl (c_trim ha.1 hs (max (nl x) k - nl Z) (max (nl x) k) (by omega) (by omega)) ?_
        intro o' ho'
        exact RW.re rfl rfl ⟨rfl, ho'⟩
      · rw [xi_gt, hi, iu (by omega)] at h1; omega
    | succ n ih =>
      intro k i cw hk hi hcw w hw
      subst hw
      have hP := pow31_int k
      have hdx := dg_lt x k
      have hxm : ((x % 2147483648 ^ k : Nat) : Int) < (2147483648 : Int) ^ k := by rw [mod_int]; exact Int.emod_lt_of_pos _ hP
      have hx0 : (0 : Int) ≤ ((x % 2147483648 ^ k : Nat) : Int) := by omega
      have hfm : (f : Int) * ((x % 2147483648 ^ k : Nat) : Int) ≤ f * (2147483648 : Int) ^ k := Int.mul_le_mul_of_nonneg_left (by omega) (by omega)
      have hfm0 : 0 ≤ (f : Int) * ((x % 2147483648 ^ k : Nat) : Int) := Int.mul_nonneg (by omega) hx0
      have hc1 : -2147483648 ≤ (az + f * ((x % 2147483648 ^ k : Nat) : Int)) / (2147483648 : Int) ^ k := by
        rw [Int.le_ediv_iff_mul_le hP]
        omega
      have hc2 : (az + f * ((x % 2147483648 ^ k : Nat) : Int)) / (2147483648 : Int) ^ k < 4294967296 := by
        rw [Int.ediv_lt_iff_lt_mul hP]
        have h5 : (f : Int) * (2147483648 : Int) ^ k ≤ 2147483647 * (2147483648 : Int) ^ k := Int.mul_le_mul_of_nonneg_right (by omega) (by omega)
        omega
      obtain ⟨e1, e2⟩ := carry_int (Z := Z) (k := k) (T := az + f * ((x % 2147483648 ^ k : Nat) : Int)) (T' := az + f * ((x % 2147483648 ^ (k + 1) : Nat) : Int)) (d := (f : Int) * (dg x k : Int)) (m := f * ((x / 2147483648 ^ (k + 1) : Nat) : Int))
        (by
          rw [dg_step, Int.natCast_add, Int.natCast_mul, Int.natCast_pow, Int.mul_add, ← Int.mul_assoc]
          have : (((2147483648 : Nat) : Int)) = 2147483648 := rfl
          rw [this]
          omega)
        (by
          have h1 := Nat.div_add_mod x (2147483648 ^ (k + 1))
          have e3 : ((2147483648 : Int)) ^ (k + 1) = ((2147483648 ^ (k + 1) : Nat) : Int) := by rw [Int.natCast_pow]; rfl
          have hx' : (x : Int) = ((x / 2147483648 ^ (k + 1) : Nat) : Int) * ((2147483648 ^ (k + 1) : Nat) : Int) + ((x % 2147483648 ^ (k + 1) : Nat) : Int) := by
            rw [← Int.natCast_mul, ← Int.natCast_add, Nat.mul_comm (x / _), h1]
          rw [hZ, e3, Int.mul_assoc]
          generalize ((x / 2147483648 ^ (k + 1) : Nat) : Int) = qq at hx' ⊢
          generalize ((x % 2147483648 ^ (k + 1) : Nat) : Int) = mm at hx' ⊢
          generalize ((2147483648 ^ (k + 1) : Nat) : Int) = PP at hx' ⊢
          rw [hx', Int.add_mul, Int.mul_comm (qq * PP), Int.mul_comm mm]
          omega)
      have hm1 : (f : Int) * (dg x k : Int) ≤ 2147483647 * 2147483647 := Int.mul_le_mul (by omega) (by omega) (by omega) (by omega)
      have hm0 : 0 ≤ (f : Int) * (dg x k : Int) := Int.mul_nonneg (by omega) (by omega)
      generalize (az + f * ((x % 2147483648 ^ k : Nat) : Int)) / (2147483648 : Int) ^ k = c at hc1 hc2 e1 e2 hcw
      subst hcw
      refine RW.ps 2 rfl ?_
      refine RW.icm (fun h1 => ?_) (fun _ => ?_)
      · rw [xi_gt, hi, iu (by omega)] at h1; omega
      · refine RW.ps 5 rfl ?_
        rw [show fw.toInt64 = Int64.ofInt (f : Int) by rw [i_of hf, ii_l (by omega) (by omega)]]
        refine RW.cp rfl rfl (xrc_v rfl rfl (IsRow.s ha.1).1) rfl rfl (c_dg (IsRow.s ha.1) hi ha.2.1 (by rw [sRow_i]; exact mx_at (Nat.le_refl k))) ?_
        refine RW.ps 2 rfl ?_
        rw [li_mul, li_add]
        refine RW.ps 4 rfl ?_
        refine RW.cv rfl rfl (xrc_v rfl rfl (IsRow.s ha.1).1) rfl rfl (c_put (IsRow.s ha.1) hi sRow_i sRow_f (by omega) (by omega)) ?_
        intro o' ho'
        refine RW.ps 3 rfl ?_
        rw [li_shr (by omega) (by omega)]
        refine RW.ps 2 rfl ?_
        refine RW.go ?_
        refine ih (k + 1) (i + 1) _ (by omega) (i_succ hi (by omega)) ?_ o' ?_
        · rw [← e2]
        · rw [ho', sRow_s, mx_step e1, show max (max (nl x) k) (k + 1) = max (nl x) (k + 1) by omega]
  refine loop _ 0 0 _ (Nat.zero_add _) rfl ?_ o ?_
  · rw [Nat.pow_zero, Nat.mod_one, i_of haz, ii_l (by omega) (by omega)]
    congr 1
    show az = (az + f * 0) / 1
    omega
  · rw [mx_0, Nat.max_eq_left (Nat.zero_le _)]; exact ha.eta.symm
