/-! DIVISION: a multiple of the divisor taken from a window of the rest, and put back. -/
/-- R with Z in the place of all from limb k on -/
def Win (R k Z : Nat) : Nat := R % 2147483648 ^ k + Z * 2147483648 ^ k
theorem win_hi (R k Z j : Nat) : dg (Win R k Z) (k + j) = dg Z j := by
  unfold dg Win
  rw [Nat.pow_add, ← Nat.div_div_eq_div_mul, Nat.add_mul_div_right _ _ (pow31_pos k), Nat.div_eq_of_lt (Nat.mod_lt _ (pow31_pos k)), Nat.zero_add]
theorem win_lo {R k Z i : Nat} (h : i < k) : dg (Win R k Z) i = dg R i := by
  have hp := pow31_pos i
  have e : 2147483648 ^ k = 2147483648 ^ i * (2147483648 * 2147483648 ^ (k - i - 1)) := by
    rw [← Nat.pow_succ', ← Nat.pow_add]; congr 1; omega
  have h1 := Nat.div_add_mod R (2147483648 ^ k)
  unfold dg Win
  conv => rhs; rw [← h1]
  generalize R % 2147483648 ^ k = r
  generalize R / 2147483648 ^ k = q
  rw [show r + Z * 2147483648 ^ k = r + 2147483648 ^ i * (2147483648 * (2147483648 ^ (k - i - 1) * Z)) by rw [e]; ac_rfl]
  rw [show 2147483648 ^ k * q + r = r + 2147483648 ^ i * (2147483648 * (2147483648 ^ (k - i - 1) * q)) by rw [e]; ac_rfl]
  rw [Nat.add_mul_div_left _ _ hp, Nat.add_mul_div_left _ _ hp, Nat.add_mul_mod_self_left, Nat.add_mul_mod_self_left]
theorem win_mod (R k : Nat) : Win R k (R / 2147483648 ^ k) = R := by
  unfold Win; rw [Nat.mul_comm, Nat.add_comm]; exact Nat.div_add_mod _ _
theorem win_div (R k Z : Nat) : Win R k Z / 2147483648 ^ k = Z := by
  unfold Win; rw [Nat.add_mul_div_right _ _ (pow31_pos k), Nat.div_eq_of_lt (Nat.mod_lt _ (pow31_pos k)), Nat.zero_add]
theorem win_win (R k Z Y : Nat) : Win (Win R k Z) k Y = Win R k Y := by
  unfold Win; rw [Nat.add_mul_mod_self_right, Nat.mod_mod]
theorem win_lt {R k Z m : Nat} (h : Z < 2147483648 ^ m) : Win R k Z < 2147483648 ^ (k + m) := by
  unfold Win
  have h1 := Nat.mod_lt R (pow31_pos k)
  have h2 : (Z + 1) * 2147483648 ^ k ≤ 2147483648 ^ m * 2147483648 ^ k := Nat.mul_le_mul_right _ h
  rw [Nat.pow_add, Nat.mul_comm (2147483648 ^ k)]
  rw [Nat.succ_mul] at h2
  omega
theorem dg_win (R k j : Nat) : dg (R / 2147483648 ^ k) j = dg R (k + j) := by
  unfold dg; rw [Nat.div_div_eq_div_mul, Nat.pow_add]
theorem mx_win (R k Z : Nat) : mx (Win R k Z) R (k + 0) = lm R := by
  funext i
  unfold mx
  by_cases h : i < k + 0
  · rw [if_pos h]; unfold lm; rw [win_lo (by omega)]
  · rw [if_neg h]
theorem pow_int (k : Nat) : ((2147483648 ^ k : Nat) : Int) = (2147483648 : Int) ^ k := by rw [Int.natCast_pow]; rfl
theorem c_takeScaled {o : xO} {d S R n k e u : Nat} {kw : Int32} (hd : IsDv o d) (hs : Rn o (d + 5) S) (hr : IsRow o (d + 3)) (hn : nl S = n + 1) (hk : kw.toInt = (k : Int)) (hkn : k + n + 1 < 540) (hR : R < 2147483648 ^ (k + (n + 2))) (he : e < 2147483648) (hu : u ≤ 540) :
    Cq y_Divider_takeScaled [.ref d, .long (Int64.ofInt (e : Nat)), .int kw] (sRow o (d + 3) (lm R) u) (fun v o' => v = .int (sg (decide (e * S ≤ R / 2147483648 ^ k))) ∧ ∃ u', u' ≤ 540 ∧ k + n + 2 ≤ u' ∧ u ≤ u' ∧
      o' = sRow o (d + 3) (lm (Win R k (if e * S ≤ R / 2147483648 ^ k then R / 2147483648 ^ k - e * S else R / 2147483648 ^ k + 2147483648 ^ (n + 2) - e * S))) u') := by
  have hnS := big_nl hs.2.1
  have hSl : S < 2147483648 ^ (n + 1) := nl_le.mp (by omega)
  have hRw : R / 2147483648 ^ k < 2147483648 ^ (n + 2) := by
    rw [Nat.div_lt_iff_lt_mul (pow31_pos k), Nat.mul_comm, ← Nat.pow_add]; exact hR
  have hRB : R < BIG ∨ True := Or.inr trivial
  have hdj := fun j => dg_win R k j
  generalize hRwd : R / 2147483648 ^ k = Rw at hRw hdj
  have heS : e * S < 2147483648 ^ (n + 2) := by
    rw [Nat.pow_succ']
    exact Nat.mul_lt_mul'' he hSl
  have hZw : ∃ s : Int, (((if e * S ≤ Rw then Rw - e * S else Rw + 2147483648 ^ (n + 2) - e * S : Nat)) : Int) = (Rw : Int) - (e : Int) * (S : Int) + s * (2147483648 : Int) ^ (n + 2) := by
    rw [← pow_int, ← Int.natCast_mul]
    by_cases h : e * S ≤ Rw
    · rw [if_pos h]; exact ⟨0, by omega⟩
    · rw [if_neg h]; exact ⟨1, by omega⟩
  have hZl : (if e * S ≤ Rw then Rw - e * S else Rw + 2147483648 ^ (n + 2) - e * S) < 2147483648 ^ (n + 2) := by
    by_cases h : e * S ≤ Rw
    · rw [if_pos h]; omega
    · rw [if_neg h]; omega
  generalize (if e * S ≤ Rw then Rw - e * S else Rw + 2147483648 ^ (n + 2) - e * S) = Zw at hZw hZl
  obtain ⟨s, hs2⟩ := hZw
  have hgf : ∀ f v, xf (sRow o (d + 3) f v) d 1 = .ref (d + 3) := fun f v => (sRow_f_ne (by omega) 1).trans hd.2.2.1
  have hgs : ∀ f v, xf (sRow o (d + 3) f v) d 2 = .ref (d + 5) := fun f v => (sRow_f_ne (by omega) 2).trans hd.2.2.2
  have hsr : ∀ f v, Rn (sRow o (d + 3) f v) (d + 5) S := fun f v => hs.ne (by omega)
  have loop : ∀ n' j (jw : Int32) (cw : Int64), j + n' = n + 2 → jw.toInt = (j : Int) → cw = Int64.ofInt ((((Rw % 2147483648 ^ j : Nat) : Int) - (e : Int) * ((S % 2147483648 ^ j : Nat) : Int)) / (2147483648 : Int) ^ j) → ∀ v w, v ≤ 540 → u ≤ v → (j = 0 ∨ k + j ≤ v) → w = sRow o (d + 3) (mx (Win R k Zw) R (k + j)) v →
      RW (fun r' o' => ∃ v, r' = .inl (some v) ∧ (v = .int (sg (decide (e * S ≤ Rw))) ∧ ∃ u', u' ≤ 540 ∧ k + n + 2 ≤ u' ∧ u ≤ u' ∧ o' = sRow o (d + 3) (lm (Win R k Zw)) u')) y_Divider_takeScaled (xbk y_Divider_takeScaled 6)
        [.ref d, .long (Int64.ofInt (e : Nat)), xj, .int kw, .long cw, xj, .int jw] [] w := by
    intro n'
    induction n' with
    | zero =>
      intro j jw cw hj hjw hcw v w hv huv hjv hw
      subst hw
      have hj' : j = n + 2 := by omega
      subst hj'
      refine RW.ps 2 rfl ?_
      refine RW.gf hd.1 (hgs _ _) ?_
      refine RW.gf (hsr _ _).1.1 (hsr _ _).2.2.2 ?_
      refine RW.icm (fun _ => ?_) (fun h1 => ?_)
      · have hc : (Rw : Int) - (e : Int) * (S : Int) = ((Rw % 2147483648 ^ (n + 2) : Nat) : Int) - (e : Int) * ((S % 2147483648 ^ (n + 2) : Nat) : Int) := by
          rw [Nat.mod_eq_of_lt hRw, Nat.mod_eq_of_lt (Nat.lt_trans hSl (Nat.pow_lt_pow_right (by decide) (by omega)))]
        rw [← hc] at hcw
        have hres : sRow o (d + 3) (mx (Win R k Zw) R (k + (n + 2))) v = sRow o (d + 3) (lm (Win R k Zw)) v := by
          rw [mx_end (nl_le.mpr hR) (nl_le.mpr (win_lt hZl))]
        rw [hres]
        refine RW.weak (lv0 := [xj, xj, xj, xj, .long cw, xj, xj]) ⟨Or.inl rfl, Or.inl rfl, Or.inl rfl, Or.inl rfl, Or.inr rfl, Or.inl rfl, Or.inl rfl, trivial⟩ ?_
        refine RW.sk [] rfl ?_
        by_cases hle : e * S ≤ Rw
        · have h0 : cw = Int64.ofInt ((0 : Nat) : Int) := by
            rw [hcw, ← Int.natCast_mul, Int.ediv_eq_zero_of_lt (by omega) (by rw [← pow_int]; omega)]; rfl
          subst h0
          refine RW.ps 3 rfl ?_
          refine RW.ifc (fun h2 => absurd (xi_ne.mp h2) (by decide)) (fun _ => ?_)
          refine RW.ps 1 rfl ?_
          refine RW.go ?_
          refine RW.re rfl rfl ⟨_, rfl, ?_, v, hv, by omega, huv, rfl⟩
          rw [decide_eq_true hle]; rfl
        · have h0 : cw = Int64.ofInt (-1) := by
            rw [hcw, ← Int.natCast_mul]
            congr 1
            have hP := pow31_int (n + 2)
            have e1 := pow_int (n + 2)
            apply Int.le_antisymm
            · exact Int.le_of_lt_add_one (Int.ediv_lt_of_lt_mul hP (by omega))
            · exact Int.le_ediv_of_mul_le hP (by omega)
          subst h0
          refine RW.ps 3 rfl ?_
          refine RW.ifc (fun _ => ?_) (fun h2 => absurd (xi_ne.mpr (by decide)) h2)
          refine RW.ps 1 rfl ?_
          refine RW.re rfl rfl ⟨_, rfl, ?_, v, hv, by omega, huv, rfl⟩
          rw [decide_eq_false hle]; rfl
      · rw [xi_gt, hjw, iu (by omega)] at h1; omega
    | succ n' ih =>
      intro j jw cw hj hjw hcw v w hv huv hjv hw
      subst hw
      have hP := pow31_int j
      have hdx := dg_lt R (k + j)
      have hdy := dg_lt S j
      have hT1 : ((Rw % 2147483648 ^ j : Nat) : Int) < (2147483648 : Int) ^ j := by rw [mod_int]; exact Int.emod_lt_of_pos _ hP
      have hT2 : ((S % 2147483648 ^ j : Nat) : Int) < (2147483648 : Int) ^ j := by rw [mod_int]; exact Int.emod_lt_of_pos _ hP
      have hT3 : (e : Int) * ((S % 2147483648 ^ j : Nat) : Int) ≤ 2147483648 * (2147483648 : Int) ^ j := Int.mul_le_mul (by omega) (by omega) (by omega) (by omega)
      have hT4 : 0 ≤ (e : Int) * ((S % 2147483648 ^ j : Nat) : Int) := Int.mul_nonneg (by omega) (by omega)
      obtain ⟨e1, e2⟩ := carry_int (Z := Zw) (k := j) (T := ((Rw % 2147483648 ^ j : Nat) : Int) - (e : Int) * ((S % 2147483648 ^ j : Nat) : Int)) (T' := ((Rw % 2147483648 ^ (j + 1) : Nat) : Int) - (e : Int) * ((S % 2147483648 ^ (j + 1) : Nat) : Int)) (d := (dg R (k + j) : Int) - (e : Int) * (dg S j : Int)) (m := ((Rw / 2147483648 ^ (j + 1) : Nat) : Int) - (e : Int) * ((S / 2147483648 ^ (j + 1) : Nat) : Int) + s * (2147483648 : Int) ^ (n' + 0))
        (by
          rw [dg_step, dg_step, hdj, Int.natCast_add, Int.natCast_add, Int.natCast_mul, Int.natCast_mul, pow_int, Int.sub_mul, Int.mul_add, ← Int.mul_assoc]
          omega)
        (by
          have h1 := Nat.div_add_mod Rw (2147483648 ^ (j + 1))
          have h2 := Nat.div_add_mod S (2147483648 ^ (j + 1))
          have h3 : (2147483648 : Int) ^ (n + 2) = (2147483648 : Int) ^ n' * (2147483648 : Int) ^ (j + 1) := by rw [← Int.pow_add]; congr 1; omega
          have h4 : (Rw : Int) = (2147483648 : Int) ^ (j + 1) * ((Rw / 2147483648 ^ (j + 1) : Nat) : Int) + ((Rw % 2147483648 ^ (j + 1) : Nat) : Int) := by rw [← pow_int, ← Int.natCast_mul, ← Int.natCast_add, h1]
          have h5 : (S : Int) = (2147483648 : Int) ^ (j + 1) * ((S / 2147483648 ^ (j + 1) : Nat) : Int) + ((S % 2147483648 ^ (j + 1) : Nat) : Int) := by rw [← pow_int, ← Int.natCast_mul, ← Int.natCast_add, h2]
          rw [hs2, h3]
          conv => lhs; rw [h4, h5]
          rw [Nat.add_zero]
          generalize ((S / 2147483648 ^ (j + 1) : Nat) : Int) = sq
          generalize ((Rw / 2147483648 ^ (j + 1) : Nat) : Int) = rq
          generalize ((S % 2147483648 ^ (j + 1) : Nat) : Int) = sm
          generalize ((Rw % 2147483648 ^ (j + 1) : Nat) : Int) = rm
          generalize (2147483648 : Int) ^ (j + 1) = P
          generalize (2147483648 : Int) ^ n' = N
          grind)
      have hc1 : -2147483648 ≤ (((Rw % 2147483648 ^ j : Nat) : Int) - (e : Int) * ((S % 2147483648 ^ j : Nat) : Int)) / (2147483648 : Int) ^ j := by
        rw [Int.le_ediv_iff_mul_le hP]
        omega
      have hc2 : (((Rw % 2147483648 ^ j : Nat) : Int) - (e : Int) * ((S % 2147483648 ^ j : Nat) : Int)) / (2147483648 : Int) ^ j < 1 := by
        rw [Int.ediv_lt_iff_lt_mul hP]
        omega
      generalize (((Rw % 2147483648 ^ j : Nat) : Int) - (e : Int) * ((S % 2147483648 ^ j : Nat) : Int)) / (2147483648 : Int) ^ j = c at hc1 hc2 e1 e2 hcw
      subst hcw
      have hkj := i_add hk hjw (by omega)
      have hed : (e : Int) * (dg S j : Int) ≤ 2147483647 * 2147483647 := Int.mul_le_mul (by omega) (by omega) (by omega) (by omega)
      have hed0 : 0 ≤ (e : Int) * (dg S j : Int) := Int.mul_nonneg (by omega) (by omega)
      have hRB2 : R < BIG ∨ 539 ≤ k + (n + 1) := by
        rcases Nat.lt_or_ge (k + (n + 1)) 539 with h | h
        · exact Or.inl (Nat.lt_of_lt_of_le hR (Nat.pow_le_pow_right (by decide) (by omega)))
        · exact Or.inr h
      refine RW.ps 2 rfl ?_
      refine RW.gf hd.1 (hgs _ _) ?_
      refine RW.gf (hsr _ _).1.1 (hsr _ _).2.2.2 ?_
      refine RW.icm (fun h1 => ?_) (fun _ => ?_)
      · rw [xi_gt, hjw, iu (by omega)] at h1; omega
      refine RW.ps 2 rfl ?_
      refine RW.gf hd.1 (hgf _ _) ?_
      refine RW.ps 3 rfl ?_
      refine RW.cp rfl rfl (xrc_v rfl rfl (IsRow.s hr).1) rfl rfl (c_at (d := dg R (k + j)) (IsRow.s hr) hkj (fun _ => by rw [sRow_i]; exact mx_at (Nat.le_refl _)) (fun h => by omega) hdx) ?_
      refine RW.ps 2 rfl ?_
      refine RW.gf hd.1 (hgs _ _) ?_
      refine RW.ps 1 rfl ?_
      refine RW.cp rfl rfl (xrc_v rfl rfl (hsr _ _).1.1) rfl rfl (c_dg (hsr _ _).1 hjw hs.2.1 (by rw [(hsr _ _).2.2.1]; rfl)) ?_
      refine RW.ps 3 rfl ?_
      refine RW.top (congrArg Value.long ((show Int64.ofInt c + (Int64.ofInt (dg R (k + j) : Nat) - Int64.ofInt (e : Nat) * Int64.ofInt (dg S j : Nat)) = Int64.ofInt (c + ((dg R (k + j) : Int) - (e : Int) * (dg S j : Int))) by rw [li_mul, li_sub, li_add]))) ?_
      refine RW.ps 2 rfl ?_
      refine RW.weak (lv0 := [.ref d, .long (Int64.ofInt (e : Nat)), xj, .int kw, .long (Int64.ofInt (c + ((dg R (k + j) : Int) - (e : Int) * (dg S j : Int)))), xj, .int jw]) ⟨Or.inr rfl, Or.inr rfl, Or.inl rfl, Or.inr rfl, Or.inr rfl, Or.inl rfl, Or.inr rfl, trivial⟩ ?_
      refine RW.sk [.ref d] rfl ?_
      refine RW.gf hd.1 (hgf _ _) ?_
      refine RW.ps 4 rfl ?_
      refine RW.cv rfl rfl (xrc_v rfl rfl (IsRow.s hr).1) rfl rfl (c_put (IsRow.s hr) hkj sRow_i sRow_f (by omega) hv) ?_
      intro o' ho'
      refine RW.ps 3 rfl ?_
      refine RW.top (congrArg Value.long (li_shr (by omega) (by omega))) ?_
      refine RW.ps 2 rfl ?_
      refine RW.go ?_
      refine ih (j + 1) (jw + 1) _ (by omega) (i_succ hjw (by omega)) ?_ (max v (k + j + 1)) o' (by omega) (by omega) (Or.inr (by omega)) ?_
      · rw [e2]
      · rw [ho', sRow_s, mx_step (by rw [win_hi]; exact e1)]; rfl
  refine RW.ps 4 rfl ?_
  refine loop (n + 2) 0 0 0 (Nat.zero_add _) rfl ?_ u _ hu (Nat.le_refl _) (Or.inl rfl) ?_
  · rw [Nat.pow_zero, Nat.mod_one, Nat.mod_one]; simp
  · rw [mx_win]
