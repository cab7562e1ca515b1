/-! ROWS: becomeRaised, lower, head. -/
theorem sub_bits {y c : Nat} (hc : c ≤ 31) : y / 2 ^ c % 2147483648 = y % 4611686018427387904 / 2 ^ c % 2147483648 := by
  obtain ⟨d, hd⟩ : ∃ d, 31 = c + d := ⟨31 - c, by omega⟩
  have h1 := Nat.div_add_mod y 4611686018427387904
  have e : 4611686018427387904 = 2 ^ c * (2147483648 * 2 ^ d) := by
    rw [Nat.mul_left_comm, ← Nat.pow_add, ← hd]
  have hp : 0 < 2 ^ c := Nat.two_pow_pos c
  generalize y % 4611686018427387904 = r at h1
  generalize y / 4611686018427387904 = m at h1
  rw [← h1, e, Nat.mul_assoc, Nat.mul_add_div hp, Nat.mul_assoc, Nat.mul_add_mod]
theorem pair_eq (x k : Nat) : x / 2147483648 ^ k % 4611686018427387904 = dg x (k + 1) * 2147483648 + dg x k := by
  have h1 := dg_lt x k
  rw [dg_up x k]
  unfold dg at h1 ⊢
  omega
def pd (x i : Nat) : Nat := match i with
  | 0 => 0
  | k + 1 => dg x k
theorem pd_lt (x i : Nat) : pd x i < 2147483648 := by
  cases i with
  | zero => exact (by decide : 0 < 2147483648)
  | succ k => exact dg_lt x k
theorem raise_dg {x W b i p : Nat} (hp : p = 31 * W + b) (hb : b < 31) : dg (x * 2 ^ p) (i + W) = (dg x i * 2147483648 + pd x i) * 2 ^ b / 2147483648 % 2147483648 := by
  have e1 : x * 2 ^ p / 2147483648 ^ (i + W) = x * 2 ^ b / 2147483648 ^ i := by
    rw [hp, Nat.pow_add, ← b31, Nat.pow_add 2147483648 i W, show x * (2147483648 ^ W * 2 ^ b) = x * 2 ^ b * 2147483648 ^ W by ac_rfl]
    exact Nat.mul_div_mul_right _ _ (pow31_pos W)
  show x * 2 ^ p / 2147483648 ^ (i + W) % 2147483648 = _
  rw [e1]
  cases i with
  | zero =>
    have e2 : dg x 0 = x % 2147483648 := by unfold dg; rw [Nat.pow_zero, Nat.div_one]
    show _ = (dg x 0 * 2147483648 + 0) * 2 ^ b / 2147483648 % 2147483648
    rw [Nat.pow_zero, Nat.div_one, Nat.add_zero, Nat.mul_right_comm, Nat.mul_div_cancel _ (by decide), e2, Nat.mul_mod, Nat.mul_mod (x % 2147483648) (2 ^ b), Nat.mod_mod]
  | succ k =>
    obtain ⟨c, hc⟩ : ∃ c, 31 = c + b := ⟨31 - b, by omega⟩
    have e3 : 2147483648 = 2 ^ c * 2 ^ b := by rw [← Nat.pow_add, ← hc]
    have hpb : 0 < 2 ^ b := Nat.two_pow_pos b
    have e4 : x * 2 ^ b / 2147483648 ^ (k + 1) = x / 2147483648 ^ k / 2 ^ c := by
      rw [Nat.pow_succ, Nat.div_div_eq_div_mul]
      rw [show 2147483648 ^ k * 2147483648 = 2147483648 ^ k * 2 ^ c * 2 ^ b by rw [Nat.mul_assoc, ← e3]]
      exact Nat.mul_div_mul_right _ _ hpb
    have e5 : (dg x (k + 1) * 2147483648 + pd x (k + 1)) * 2 ^ b / 2147483648 = (dg x (k + 1) * 2147483648 + pd x (k + 1)) / 2 ^ c := by
      generalize dg x (k + 1) * 2147483648 + pd x (k + 1) = q
      conv => lhs; rw [e3]
      exact Nat.mul_div_mul_right _ _ hpb
    rw [e4, e5, sub_bits (by omega), pair_eq]
    rfl
theorem lower_dg {x W b i p : Nat} (hp : p = 31 * W + b) (hb : b < 31) : dg (x / 2 ^ p) i = (dg x (i + W + 1) * 2147483648 + dg x (i + W)) / 2 ^ b % 2147483648 := by
  rw [← pair_eq, ← sub_bits (by omega)]
  unfold dg
  rw [Nat.div_div_eq_div_mul, Nat.div_div_eq_div_mul, hp, Nat.pow_add 2 (31 * W) b, ← b31, Nat.pow_add 2147483648 i W]
  congr 2
  ac_rfl
theorem i_subnat {i : Int32} {a : Nat} (hi : i.toInt = (a : Int)) (h : a < 2147483648) : (i - 1).toInt = (a : Int) - 1 := by
  rw [Int32.toInt_sub, hi]
  show ((a : Int) - 1).bmod (2 ^ 32) = _
  rw [Int.bmod_eq_of_le (by omega) (by omega)]
theorem c_prev {o : xO} {q k x : Nat} {i : Int32} (h : IsRow o q) (hi : i.toInt = (k : Int)) (hk : k < 2147483648) (hx : x < BIG) (hd : xi o (q + 1) = lm x) : Cp y_Row_at [.ref q, .int (i - 1)] o (.long (Int64.ofInt (pd x k : Nat))) := by
  have h1 := i_subnat hi hk
  cases k with
  | zero => exact c_at_neg (by rw [h1]; decide)
  | succ k => exact c_dg h (by rw [h1]; omega) hx (by rw [hd]; rfl)
theorem li_mod (n : Nat) : Int64.ofInt (n : Int) = Int64.ofInt ((n % 2 ^ 64 : Nat) : Int) := by
  apply Int64.toInt_inj.mp
  rw [Int64.toInt_ofInt, Int64.toInt_ofInt, Int.natCast_emod]
  exact (Int.emod_bmod ..).symm
theorem c_becomeRaised {o : xO} {r a v x p : Nat} {pw : Int32} (hr : Rn o r v) (ha : Rn o a x) (hra : a ≠ r) (hp : pw.toInt = (p : Int)) (hp2 : p < 2147483648) (hZ : x * 2 ^ p < BIG) (hW : nl x + p / 31 < 540) : Cv y_Row_becomeRaised [.ref r, .ref a, .int pw] o (fun o' => o' = sNum o r (x * 2 ^ p)) := by
  have hnx := big_nl ha.2.1
  refine RW.ps 1 rfl ?_
  refine RW.cv rfl rfl (xrc_v rfl rfl hr.1.1) rfl rfl (c_clear hr) ?_
  intro o1 ho1
  subst ho1
  have hpd : p = 31 * (p / 31) + p % 31 := by omega
  have hbl : p % 31 < 31 := by omega
  refine RW.ps 2 rfl ?_
  refine RW.idv (by decide) ?_
  rw [i_of hp, show (31 : Int32) = Int32.ofInt ((31 : Nat) : Int) by decide, i_div hp2 (by decide)]
  refine RW.ps 3 rfl ?_
  refine RW.irm (by decide) ?_
  rw [i_rem hp2 (by decide)]
  refine RW.ps 3 rfl ?_
  generalize hWd : p / 31 = W at hpd hW
  generalize hbd : p % 31 = b at hpd hbl
  have hdg := fun i => raise_dg (x := x) (i := i) hpd hbl
  generalize hZd : x * 2 ^ p = Z at hZ hdg
  have hnZ := big_nl hZ
  have loop : ∀ n i (iw : Int32), i + n = nl x + 1 → iw.toInt = (i : Int) → ∀ u d w, u ≤ 540 → nl (Z % 2147483648 ^ (W + i)) ≤ u → w = sRow o r (mx Z 0 (W + i)) u → RW (fun r' o' => r' = .inl none ∧ o' = sNum o r Z) y_Row_becomeRaised (xbk y_Row_becomeRaised 18) [.ref r, .ref a, .int (Int32.ofInt (p : Int)), .int (Int32.ofInt (W : Int)), .int (Int32.ofInt (b : Int)), .int iw, d, xj] [] w := by
    intro n
    induction n with
    | zero =>
      intro i iw hk hi u d w hu hu2 hw
      subst hw
      refine RW.ps 2 rfl ?_
      refine RW.gf ha.1.1 ((sRow_f_ne hra 1).trans ha.2.2.2) ?_
      refine RW.icm (fun _ => ?_) (fun h1 => ?_)
      · refine RW.ps 1 rfl ?_
        have hi' : i = nl x + 1 := by omega
        subst hi'
        have hZl : Z < 2147483648 ^ (W + (nl x + 1)) := by
          have h1 := nl_le.mp (Nat.le_refl (nl x))
          have h2 : 2 ^ b < 2147483648 := Nat.pow_lt_pow_right (a := 2) (n := 31) (by decide) hbl
          rw [← hZd, hpd, Nat.pow_add, ← b31, Nat.pow_add, Nat.pow_succ]
          have h3 : x * (2147483648 ^ W * 2 ^ b) = 2147483648 ^ W * (x * 2 ^ b) := by ac_rfl
          rw [h3]
          exact Nat.mul_lt_mul_of_pos_left (Nat.mul_lt_mul'' h1 h2) (pow31_pos W)
        rw [mod_all hZl] at hu2
        rw [mx_end (by rw [nl_zero.mpr rfl]; omega) (nl_le.mpr hZl)]
        refine RW.cv rfl rfl (xrc_v rfl rfl (IsRow.s hr.1).1) rfl rfl (c_trim hr.1 hZ (u - nl Z) u (by omega) (by omega)) ?_
        intro o' ho'
        exact RW.re rfl rfl ⟨rfl, ho'⟩
      · rw [xi_gt, hi, iu (by omega)] at h1; omega
    | succ n ih =>
      intro i iw hk hi u d w hu hu2 hw
      subst hw
      refine RW.ps 2 rfl ?_
      refine RW.gf ha.1.1 ((sRow_f_ne hra 1).trans ha.2.2.2) ?_
      refine RW.icm (fun h1 => ?_) (fun _ => ?_)
      · rw [xi_gt, hi, iu (by omega)] at h1; omega
      refine RW.ps 2 rfl ?_
      refine RW.cp rfl rfl (xrc_v rfl rfl (IsRow.s ha.1).1) rfl rfl (c_dg (IsRow.s ha.1) hi ha.2.1 (by rw [sRow_i_ne (by omega), ha.2.2.1]; rfl)) ?_
      refine RW.ps 6 rfl ?_
      refine RW.cp rfl rfl (xrc_v rfl rfl (IsRow.s ha.1).1) rfl rfl (c_prev (IsRow.s ha.1) hi (by omega) ha.2.1 (by rw [sRow_i_ne (by omega)]; exact ha.2.2.1)) ?_
      have hd1 := dg_lt x i
      have hd2 := pd_lt x i
      refine RW.ps 1 rfl ?_
      rw [n_shl (k := 31) (dg x i) rfl (by decide), n_or (k := 31) hd2 (by omega)]
      refine RW.ps 8 rfl ?_
      have hE := hdg i
      have hc62 : dg x i * 2 ^ 31 + pd x i < 2 ^ 62 := by omega
      rw [show dg x i * 2147483648 + pd x i = dg x i * 2 ^ 31 + pd x i from rfl] at hE
      generalize dg x i * 2 ^ 31 + pd x i = pair at hE hc62
      rw [n_shl (k := b) pair (iu (by omega)) (by omega), li_mod (pair * 2 ^ b)]
      refine RW.ps 1 rfl ?_
      refine RW.ps 1 rfl ?_
      rw [n_ushr (n := pair * 2 ^ b % 2 ^ 64) (k := 31) (y := 31) rfl (by decide) (Nat.mod_lt _ (by decide))]
      have hWi : (iw + Int32.ofInt (W : Int)).toInt = ((W + i : Nat) : Int) := by rw [i_add hi (iu (by omega)) (by omega), Nat.add_comm]
      refine RW.cv rfl rfl (xrc_v rfl rfl (IsRow.s hr.1).1) rfl rfl (c_put (IsRow.s hr.1) hWi sRow_i sRow_f (by omega) (by omega)) ?_
      intro o' ho'
      refine RW.ps 1 rfl ?_
      refine RW.go ?_
      refine ih (i + 1) (iw + 1) (by omega) (i_succ hi (by omega)) (max u (W + i + 1)) _ _ (by omega) ?_ ?_
      · have := nl_le.mpr (Nat.mod_lt Z (pow31_pos (W + (i + 1))))
        omega
      · rw [ho', sRow_s, mx_step]
        · rfl
        · rw [Nat.add_comm W i, hE]
          omega
  refine RW.weak (lv0 := [.ref r, .ref a, .int (Int32.ofInt (p : Int)), .int (Int32.ofInt (W : Int)), .int (Int32.ofInt (b : Int)), .int 0, xj, xj]) ⟨Or.inr rfl, Or.inr rfl, Or.inr rfl, Or.inr rfl, Or.inr rfl, Or.inr rfl, Or.inl rfl, Or.inl rfl, trivial⟩ ?_
  have hzW : Z % 2147483648 ^ W = 0 := by
    rw [← hZd, hpd, Nat.pow_add, ← b31]
    rw [show x * (2147483648 ^ W * 2 ^ b) = 2147483648 ^ W * (x * 2 ^ b) by ac_rfl]
    exact Nat.mul_mod_right _ _
  refine loop (nl x + 1) 0 0 (Nat.zero_add _) rfl 0 _ _ (by omega) ?_ ?_
  · rw [Nat.add_zero, hzW]; decide
  · show sRow o r (lm 0) (nl 0) = _
    rw [nl_zero.mpr rfl]
    congr 1
    funext k
    unfold mx
    by_cases hk : k < W + 0
    · rw [if_pos hk]
      unfold lm
      congr 2
      have e : 2147483648 ^ W = 2147483648 ^ k * (2147483648 * 2147483648 ^ (W - k - 1)) := by
        rw [← Nat.pow_succ', ← Nat.pow_add]; congr 1; omega
      have h1 := Nat.div_add_mod Z (2147483648 ^ W)
      rw [hzW, Nat.add_zero, e, Nat.mul_assoc] at h1
      unfold dg
      rw [← h1, Nat.mul_div_cancel_left _ (pow31_pos k), Nat.mul_assoc, Nat.mul_mod_right, Nat.zero_div]
    · rw [if_neg hk]
/-- in place, down -/
theorem c_lower {o : xO} {r x p : Nat} {pw : Int32} (hr : Rn o r x) (hp : pw.toInt = (p : Int)) (hp2 : p < 2147483648) : Cv y_Row_lower [.ref r, .int pw] o (fun o' => o' = sNum o r (x / 2 ^ p)) := by
  have hnx := big_nl hr.2.1
  have hpd : p = 31 * (p / 31) + p % 31 := by omega
  have hbl : p % 31 < 31 := by omega
  have hW2 : p / 31 < 2147483648 / 31 + 1 := by omega
  refine RW.ps 2 rfl ?_
  refine RW.idv (by decide) ?_
  rw [i_of hp, show (31 : Int32) = Int32.ofInt ((31 : Nat) : Int) by decide, i_div hp2 (by decide)]
  refine RW.ps 3 rfl ?_
  refine RW.irm (by decide) ?_
  rw [i_rem hp2 (by decide)]
  refine RW.ps 2 rfl ?_
  refine RW.gf hr.1.1 hr.2.2.2 ?_
  refine RW.ps 3 rfl ?_
  generalize hWd : p / 31 = W at hpd hW2
  generalize hbd : p % 31 = b at hpd hbl
  have hdg := fun i => lower_dg (x := x) (i := i) hpd hbl
  have hZx : x / 2 ^ p ≤ x := Nat.div_le_self _ _
  generalize hZd : x / 2 ^ p = Z at hZx hdg
  have hZ : Z < BIG := Nat.lt_of_le_of_lt hZx hr.2.1
  have hnZ := nl_mono hZx
  have loop : ∀ n i (iw : Int32), i + n = nl x → iw.toInt = (i : Int) → ∀ d w, w = sRow o r (mx Z x i) (nl x) → RW (fun r' o' => r' = .inl none ∧ o' = sNum o r Z) y_Row_lower (xbk y_Row_lower 19) [.ref r, .int (Int32.ofInt (p : Int)), .int (Int32.ofInt (W : Int)), .int (Int32.ofInt (b : Int)), .int (Int32.ofInt (nl x : Nat)), .int iw, d, xj] [] w := by
    intro n
    induction n with
    | zero =>
      intro i iw hk hi d w hw
      subst hw
      refine RW.ps 2 rfl ?_
      refine RW.icm (fun _ => ?_) (fun h1 => ?_)
      · refine RW.ps 1 rfl ?_
        have hi' : i = nl x := by omega
        subst hi'
        rw [mx_end (Nat.le_refl _) hnZ]
        refine RW.cv rfl rfl (xrc_v rfl rfl (IsRow.s hr.1).1) rfl rfl (c_trim hr.1 hZ (nl x - nl Z) (nl x) (by omega) (by omega)) ?_
        intro o' ho'
        exact RW.re rfl rfl ⟨rfl, ho'⟩
      · rw [xi_ge, hi, iu (by omega)] at h1; omega
    | succ n ih =>
      intro i iw hk hi d w hw
      subst hw
      refine RW.ps 2 rfl ?_
      refine RW.icm (fun h1 => ?_) (fun _ => ?_)
      · rw [xi_ge, hi, iu (by omega)] at h1; omega
      have hWi : (iw + Int32.ofInt (W : Int)).toInt = ((i + W : Nat) : Int) := i_add hi (iu (by omega)) (by omega)
      have hd1 := dg_lt x (i + W + 1)
      have hd2 := dg_lt x (i + W)
      refine RW.ps 6 rfl ?_
      refine RW.cp rfl rfl (xrc_v rfl rfl (IsRow.s hr.1).1) rfl rfl (c_dg (x := x) (IsRow.s hr.1) (i_succ hWi (by omega)) hr.2.1 (by rw [sRow_i]; exact mx_at (by omega))) ?_
      refine RW.ps 6 rfl ?_
      refine RW.cp rfl rfl (xrc_v rfl rfl (IsRow.s hr.1).1) rfl rfl (c_dg (x := x) (IsRow.s hr.1) hWi hr.2.1 (by rw [sRow_i]; exact mx_at (by omega))) ?_
      refine RW.ps 1 rfl ?_
      rw [n_shl (k := 31) (dg x (i + W + 1)) rfl (by decide), n_or (k := 31) hd2 (by omega)]
      have hE := hdg i
      have hc62 : dg x (i + W + 1) * 2 ^ 31 + dg x (i + W) < 2 ^ 62 := by omega
      rw [show dg x (i + W + 1) * 2147483648 + dg x (i + W) = dg x (i + W + 1) * 2 ^ 31 + dg x (i + W) from rfl] at hE
      generalize dg x (i + W + 1) * 2 ^ 31 + dg x (i + W) = pair at hE hc62
      refine RW.ps 6 rfl ?_
      rw [n_shr (k := b) (iu (by omega)) (by omega) (by omega)]
      refine RW.cv rfl rfl (xrc_v rfl rfl (IsRow.s hr.1).1) rfl rfl (c_put (IsRow.s hr.1) hi sRow_i sRow_f (by omega) (by omega)) ?_
      intro o' ho'
      refine RW.ps 1 rfl ?_
      refine RW.go ?_
      refine ih (i + 1) (iw + 1) (by omega) (i_succ hi (by omega)) _ _ ?_
      rw [ho', sRow_s, Nat.max_eq_left (by omega), mx_step]
      rw [hE]; omega
  refine RW.weak (lv0 := [.ref r, .int (Int32.ofInt (p : Int)), .int (Int32.ofInt (W : Int)), .int (Int32.ofInt (b : Int)), .int (Int32.ofInt (nl x : Nat)), .int 0, xj, xj]) ⟨Or.inr rfl, Or.inr rfl, Or.inr rfl, Or.inr rfl, Or.inr rfl, Or.inr rfl, Or.inl rfl, Or.inl rfl, trivial⟩ ?_
  refine loop (nl x) 0 0 (Nat.zero_add _) rfl _ _ ?_
  rw [mx_0]
  exact hr.eta.symm
theorem c_head {o : xO} {r x p : Nat} {pw : Int32} (hr : Rn o r x) (hp : pw.toInt = (p : Int)) (hp2 : p < 2147483648) (hx : x / 2 ^ p < 2 ^ 62) : Cp y_Row_head [.ref r, .int pw] o (.long (Int64.ofInt (x / 2 ^ p : Nat))) := by
  have hpd : p = 31 * (p / 31) + p % 31 := by omega
  have hbl : p % 31 < 31 := by omega
  have hW2 : p / 31 < 2147483648 / 31 + 1 := by omega
  refine RW.ps 2 rfl ?_
  refine RW.idv (by decide) ?_
  rw [i_of hp, show (31 : Int32) = Int32.ofInt ((31 : Nat) : Int) by decide, i_div hp2 (by decide)]
  refine RW.ps 3 rfl ?_
  refine RW.irm (by decide) ?_
  rw [i_rem hp2 (by decide)]
  generalize hWd : p / 31 = W at hpd hW2
  generalize hbd : p % 31 = b at hpd hbl
  refine RW.ps 5 rfl ?_
  have hW : (Int32.ofInt (W : Int)).toInt = (W : Int) := iu (by omega)
  have hd0 := dg_lt x W
  have hd1 := dg_lt x (W + 1)
  refine RW.cp rfl rfl (xrc_v rfl rfl hr.1.1) rfl rfl (c_dg hr.1 (i_succ hW (by omega)) hr.2.1 (by rw [hr.2.2.1]; rfl)) ?_
  refine RW.ps 4 rfl ?_
  refine RW.cp rfl rfl (xrc_v rfl rfl hr.1.1) rfl rfl (c_dg hr.1 hW hr.2.1 (by rw [hr.2.2.1]; rfl)) ?_
  refine RW.ps 1 rfl ?_
  rw [n_shl (k := 31) (dg x (W + 1)) rfl (by decide), n_or (k := 31) hd0 (by omega)]
  have hpr := pair_eq x W
  have hpl : dg x (W + 1) * 2 ^ 31 + dg x W < 2 ^ 62 := by omega
  rw [show dg x (W + 1) * 2147483648 + dg x W = dg x (W + 1) * 2 ^ 31 + dg x W from rfl] at hpr
  generalize dg x (W + 1) * 2 ^ 31 + dg x W = pair at hpr hpl
  refine RW.ps 8 rfl ?_
  rw [n_shr (k := b) (iu (by omega)) (by omega) (by omega)]
  refine RW.cp rfl rfl (xrc_v rfl rfl hr.1.1) rfl rfl (c_dg hr.1 (i_add (b := 2) hW rfl (by omega)) hr.2.1 (by rw [hr.2.2.1]; rfl)) ?_
  obtain ⟨c, hc⟩ : ∃ c, 62 = c + b := ⟨62 - b, by omega⟩
  have hsub : (62 - Int32.ofInt (b : Int)).toInt = (c : Int) := by
    rw [show (62 : Int32) = Int32.ofInt (62 : Int) by decide, ii_sub, ii_toInt (by omega) (by omega)]
    omega
  refine RW.ps 3 rfl ?_
  refine RW.ps 1 rfl ?_
  rw [n_shl (k := c) (dg x (W + 2)) hsub (by omega)]
  have hpb : 0 < 2 ^ b := Nat.two_pow_pos b
  have hpb2 : 2 ^ b ≤ 2 ^ 30 := Nat.pow_le_pow_right (by decide) (by omega)
  have e62 : 2 ^ 62 = 2 ^ c * 2 ^ b := by rw [← Nat.pow_add, ← hc]
  have hq : pair / 2 ^ b < 2 ^ c := by rw [Nat.div_lt_iff_lt_mul hpb, ← e62]; exact hpl
  have hxy : x / 2 ^ p = x / 2147483648 ^ W / 2 ^ b := by rw [Nat.div_div_eq_div_mul, hpd, Nat.pow_add, b31]
  have hy : x / 2147483648 ^ W = x / 2147483648 ^ (W + 2) * 4611686018427387904 + pair := by
    have h1 := Nat.div_add_mod (x / 2147483648 ^ W) 4611686018427387904
    have h2 : x / 2147483648 ^ (W + 2) = x / 2147483648 ^ W / 4611686018427387904 := by rw [Nat.div_div_eq_div_mul, Nat.pow_add]
    rw [hpr] at h1
    rw [h2]; omega
  have hs : x / 2147483648 ^ (W + 2) < 2147483648 := by
    have h1 : x / 2147483648 ^ W < 2 ^ 62 * 2 ^ b := by rw [← Nat.div_lt_iff_lt_mul hpb, ← hxy]; exact hx
    have h2 : 2 ^ 62 * 2 ^ b ≤ 2 ^ 62 * 2 ^ 30 := Nat.mul_le_mul_left _ hpb2
    omega
  have hdd : dg x (W + 2) = x / 2147483648 ^ (W + 2) := Nat.mod_eq_of_lt hs
  have hfin : x / 2 ^ p = dg x (W + 2) * 2 ^ c + pair / 2 ^ b := by
    rw [hxy, hy, hdd, show (4611686018427387904 : Nat) = 2 ^ c * 2 ^ b from e62, ← Nat.mul_assoc, Nat.add_comm, Nat.add_mul_div_right _ _ hpb, Nat.add_comm]
  refine RW.ps 1 rfl ?_
  rw [n_or' (k := c) hq (by rw [← hfin]; omega), ← hfin]
  exact RW.re rfl rfl ⟨rfl, rfl⟩
