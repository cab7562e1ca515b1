/-! ROWS: become, becomeLong, add, take, scale. -/
/-- the lowest k limbs of Z, above them those of x -/
def mx (Z x k : Nat) : Nat → Int32 := fun j => if j < k then lm Z j else lm x j
theorem mx_0 (Z x : Nat) : mx Z x 0 = lm x := by funext j; exact if_neg (by omega)
theorem mx_step {Z x k : Nat} {s : Int} (h : s % 2147483648 = (dg Z k : Int)) : (fun j => if j = k then Int32.ofInt (s % 2147483648) else mx Z x k j) = mx Z x (k + 1) := by
  funext j
  unfold mx
  by_cases hj : j = k
  · rw [if_pos hj, if_pos (by omega), h, hj]; rfl
  · rw [if_neg hj]
    by_cases hk : j < k
    · rw [if_pos hk, if_pos (by omega)]
    · rw [if_neg hk, if_neg (by omega)]
theorem mx_end {Z x k : Nat} (hx : nl x ≤ k) (hZ : nl Z ≤ k) : mx Z x k = lm Z := by
  funext j
  unfold mx
  by_cases hj : j < k
  · rw [if_pos hj]
  · rw [if_neg hj]; unfold lm; rw [dg_zero' (x := x) (by omega), dg_zero' (x := Z) (by omega)]
theorem mx_at {Z x k j : Nat} (h : k ≤ j) : mx Z x k j = Int32.ofInt (dg x j) := if_neg (by omega)
section RWmath
variable {Q : xR → xO → Prop} {y : Nat} {is : List xI} {lv : List Value} {o : xO} {len : Nat} {v : Value}
theorem RW.mmax {ix : Nat} {x w : Int32} {r : List Value} (hr : xsum r ≤ 8) (k : RW Q y is lv (.int (if x < w then w else x) :: r) o) : RW Q y ((.invokestatic ix, len, v, 0, 8) :: is) lv (.int w :: .int x :: r) o :=
  RW.hp rfl (by show (if xsum r ≤ 8 then _ else none) = _; exact if_pos hr) k
theorem RW.mmin {ix : Nat} {x w : Int32} {r : List Value} (hr : xsum r ≤ 8) (k : RW Q y is lv (.int (if w < x then w else x) :: r) o) : RW Q y ((.invokestatic ix, len, v, 1, 8) :: is) lv (.int w :: .int x :: r) o :=
  RW.hp rfl (by show (if xsum r ≤ 8 then _ else none) = _; exact if_pos hr) k
theorem RW.mminl {ix : Nat} {x w : Int64} {r : List Value} (hr : xsum r ≤ 8) (k : RW Q y is lv (.long (if w < x then w else x) :: r) o) : RW Q y ((.invokestatic ix, len, v, 2, 8) :: is) lv (.long w :: .long x :: r) o :=
  RW.hp rfl (by show (if xsum r ≤ 8 then _ else none) = _; exact if_pos hr) k
theorem RW.mabs {ix : Nat} {x : Int64} {r : List Value} (hr : xsum r ≤ 8) (k : RW Q y is lv (.long (if 0 < x then x else -x) :: r) o) : RW Q y ((.invokestatic ix, len, v, 3, 8) :: is) lv (.long x :: r) o :=
  RW.hp rfl (by show (if xsum r ≤ 8 then _ else none) = _; exact if_pos hr) k
end RWmath
theorem imax {u w : Nat} (hu : u < 2147483648) (hw : w < 2147483648) : (if Int32.ofInt (u : Int) < Int32.ofInt (w : Int) then Int32.ofInt (w : Int) else Int32.ofInt (u : Int)) = Int32.ofInt ((max u w : Nat) : Int) := by
  have e := ii_lt (a := (u : Int)) (b := (w : Int)) (by omega) (by omega) (by omega) (by omega)
  by_cases h : u < w
  · rw [if_pos (e.mpr (by omega)), Nat.max_eq_right (by omega)]
  · rw [if_neg (fun z => h (by have := e.mp z; omega)), Nat.max_eq_left (by omega)]
theorem c_become {o : xO} {a b x y : Nat} (ha : Rn o a x) (hb : Rn o b y) : Cv y_Row_become [.ref a, .ref b] o (fun o' => o' = sNum o a y) := by
  have hnx := big_nl ha.2.1
  have hny := big_nl hb.2.1
  refine RW.ps 1 rfl ?_
  refine RW.gf ha.1.1 ha.2.2.2 ?_
  refine RW.ps 1 rfl ?_
  refine RW.gf hb.1.1 hb.2.2.2 ?_
  refine RW.mmax (Nat.zero_le _) ?_
  rw [imax (by omega) (by omega)]
  refine RW.ps 3 rfl ?_
  have loop : ∀ n k (i : Int32), k + n = max (nl x) (nl y) → i.toInt = (k : Int) → ∀ w, w = sRow o a (mx y x k) (max (nl x) k) → RW (fun r' o' => r' = .inl none ∧ o' = sNum o a y) y_Row_become (xbk y_Row_become 14) [.ref a, .ref b, .int (Int32.ofInt ((max (nl x) (nl y) : Nat) : Int)), .int i] [] w := by
    intro n
    induction n with
    | zero =>
      intro k i hk hi w hw
      subst hw
      refine RW.ps 2 rfl ?_
      refine RW.icm (fun _ => ?_) (fun h1 => ?_)
      · refine RW.ps 1 rfl ?_
        rw [mx_end (by omega) (by omega), show max (nl x) k = nl y + (max (nl x) k - nl y) by omega]
        refine RW.cv rfl rfl (xrc_v rfl rfl (IsRow.s ha.1).1) rfl rfl (c_trim ha.1 hb.2.1 _ _ rfl (by omega)) ?_
        intro o' ho'
        exact RW.re rfl rfl ⟨rfl, ho'⟩
      · rw [xi_ge, hi, iu (by omega)] at h1; omega
    | succ n ih =>
      intro k i hk hi w hw
      subst hw
      refine RW.ps 2 rfl ?_
      refine RW.icm (fun h1 => ?_) (fun _ => ?_)
      · rw [xi_ge, hi, iu (by omega)] at h1; omega
      · refine RW.ps 4 rfl ?_
        have hrd : xi (sRow o a (mx y x k) (max (nl x) k)) (b + 1) k = Int32.ofInt (dg y k) := by
          by_cases hab : b = a
          · subst hab
            rw [sRow_i, mx_at (Nat.le_refl k)]
            have := congrFun (ha.2.2.1.symm.trans hb.2.2.1) k
            exact this
          · rw [sRow_i_ne (by omega), hb.2.2.1]; rfl
        refine RW.cp rfl rfl (xrc_v rfl rfl (IsRow.s hb.1).1) rfl rfl (c_dg (IsRow.s hb.1) hi hb.2.1 hrd) ?_
        refine RW.cv rfl rfl (xrc_v rfl rfl (IsRow.s ha.1).1) rfl rfl (c_put (IsRow.s ha.1) hi sRow_i sRow_f (by omega) (by omega)) ?_
        intro o' ho'
        refine RW.ps 1 rfl ?_
        refine RW.go ?_
        refine ih (k + 1) (i + 1) (by omega) (i_succ hi (by omega)) o' ?_
        have hd := dg_lt y k
        rw [ho', sRow_s, mx_step (by omega), show max (max (nl x) k) (k + 1) = max (nl x) (k + 1) by omega]
  refine loop _ 0 0 (Nat.zero_add _) rfl o ?_
  rw [mx_0, Nat.max_eq_left (Nat.zero_le _)]
  exact ha.eta.symm
theorem c_add {o : xO} {a b x y : Nat} (ha : Rn o a x) (hb : Rn o b y) (hs : x + y < BIG) : Cv y_Row_add [.ref a, .ref b] o (fun o' => o' = sNum o a (x + y)) := by
  have hnx := big_nl ha.2.1
  have hny := big_nl hb.2.1
  have hnz := big_nl hs
  refine RW.ps 1 rfl ?_
  refine RW.gf ha.1.1 ha.2.2.2 ?_
  refine RW.ps 1 rfl ?_
  refine RW.gf hb.1.1 hb.2.2.2 ?_
  refine RW.mmax (Nat.zero_le _) ?_
  rw [imax (by omega) (by omega)]
  refine RW.ps 5 rfl ?_
  have loop : ∀ n k (i : Int32) (cw : Int64), k + n = max (nl x) (nl y) + 1 → i.toInt = (k : Int) → cw = Int64.ofInt (((x % 2147483648 ^ k + y % 2147483648 ^ k) / 2147483648 ^ k : Nat) : Int) → ∀ w, w = sRow o a (mx (x + y) x k) (max (nl x) k) → RW (fun r' o' => r' = .inl none ∧ o' = sNum o a (x + y)) y_Row_add (xbk y_Row_add 17)
      [.ref a, .ref b, .int (Int32.ofInt ((max (nl x) (nl y) : Nat) : Int)), .long cw, xj, .int i] [] w := by
    intro n
    induction n with
    | zero =>
      intro k i cw hk hi hcw w hw
      subst hw
      refine RW.ps 2 rfl ?_
      refine RW.icm (fun _ => ?_) (fun h1 => ?_)
      · refine RW.ps 1 rfl ?_
        have hz : nl (x + y) ≤ k := by
          rw [nl_le]
          have h1 := nl_le.mp (show nl x ≤ max (nl x) (nl y) by omega)
          have h2 := nl_le.mp (show nl y ≤ max (nl x) (nl y) by omega)
          rw [show k = max (nl x) (nl y) + 1 by omega, Nat.pow_succ]
          omega
        rw [mx_end (by omega) hz, show max (nl x) k = nl (x + y) + (max (nl x) k - nl (x + y)) by omega]
        refine RW.cv rfl rfl (xrc_v rfl rfl (IsRow.s ha.1).1) rfl rfl (c_trim ha.1 hs _ _ rfl (by omega)) ?_
        intro o' ho'
        exact RW.re rfl rfl ⟨rfl, ho'⟩
      · rw [xi_gt, hi, iu (by omega)] at h1; omega
    | succ n ih =>
      intro k i cw hk hi hcw w hw
      subst hw
      have hP := pow31_pos k
      have hx1 := Nat.mod_lt x hP
      have hy1 := Nat.mod_lt y hP
      have hdx := dg_lt x k
      have hdy := dg_lt y k
      have hc : (x % 2147483648 ^ k + y % 2147483648 ^ k) / 2147483648 ^ k < 2 := by
        rw [Nat.div_lt_iff_lt_mul hP]; omega
      have hT : x % 2147483648 ^ (k + 1) + y % 2147483648 ^ (k + 1) = (x % 2147483648 ^ k + y % 2147483648 ^ k) + (dg x k + dg y k) * 2147483648 ^ k := by
        rw [dg_step, dg_step, Nat.add_mul]; omega
      obtain ⟨e1, e2⟩ := carry_nat (Z := x + y) hT ⟨x / 2147483648 ^ (k + 1) + y / 2147483648 ^ (k + 1), by
        rw [Nat.add_mul]
        have h1 := Nat.div_add_mod x (2147483648 ^ (k + 1))
        have h2 := Nat.div_add_mod y (2147483648 ^ (k + 1))
        rw [Nat.mul_comm] at h1 h2
        omega⟩
      generalize (x % 2147483648 ^ k + y % 2147483648 ^ k) / 2147483648 ^ k = c at hc e1 e2 hcw
      subst hcw
      refine RW.ps 2 rfl ?_
      refine RW.icm (fun h1 => ?_) (fun _ => ?_)
      · rw [xi_gt, hi, iu (by omega)] at h1; omega
      · refine RW.ps 3 rfl ?_
        refine RW.cp rfl rfl (xrc_v rfl rfl (IsRow.s ha.1).1) rfl rfl (c_dg (IsRow.s ha.1) hi ha.2.1 (by rw [sRow_i]; exact mx_at (Nat.le_refl k))) ?_
        refine RW.ps 2 rfl ?_
        have hrd : xi (sRow o a (mx (x + y) x k) (max (nl x) k)) (b + 1) k = Int32.ofInt (dg y k) := by
          by_cases hab : b = a
          · subst hab
            rw [sRow_i, mx_at (Nat.le_refl k)]
            exact congrFun (ha.2.2.1.symm.trans hb.2.2.1) k
          · rw [sRow_i_ne (by omega), hb.2.2.1]; rfl
        refine RW.cp rfl rfl (xrc_v rfl rfl (IsRow.s hb.1).1) rfl rfl (c_dg (IsRow.s hb.1) hi hb.2.1 hrd) ?_
        refine RW.ps 2 rfl ?_
        rw [li_add, li_add]
        refine RW.ps 4 rfl ?_
        refine RW.cv rfl rfl (xrc_v rfl rfl (IsRow.s ha.1).1) rfl rfl (c_put (IsRow.s ha.1) hi sRow_i sRow_f (by omega) (by omega)) ?_
        intro o' ho'
        refine RW.ps 3 rfl ?_
        rw [li_shr (by omega) (by omega)]
        refine RW.ps 2 rfl ?_
        refine RW.go ?_
        refine ih (k + 1) (i + 1) _ (by omega) (i_succ hi (by omega)) ?_ o' ?_
        · rw [← e2]; congr 1
        · rw [ho', sRow_s, mx_step (by omega), show max (max (nl x) k) (k + 1) = max (nl x) (k + 1) by omega]
  refine loop _ 0 0 0 (Nat.zero_add _) rfl ?_ o ?_
  · rw [Nat.pow_zero, Nat.mod_one, Nat.mod_one]; decide
  · rw [mx_0, Nat.max_eq_left (Nat.zero_le _)]
    exact ha.eta.symm
