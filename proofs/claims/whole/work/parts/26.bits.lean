/-! LONGS AS BITS (the wb_ rows are pasted from the kit's BITS), and division by a limb. -/
theorem wb_tb (n : Nat) : (lN n).toBitVec = BitVec.ofNat 64 n := rfl
theorem wb_inj {a b : Int64} (h : a.toBitVec = b.toBitVec) : a = b := Int64.toBitVec_inj.mp h
theorem wb_tn {n : Nat} (h : n < 2 ^ 64) : (lN n).toBitVec.toNat = n := by rw [wb_tb, BitVec.toNat_ofNat, Nat.mod_eq_of_lt h]
theorem wb_c : ∀ k, k < 64 → ((nI k).toInt64 &&& 63) = lN k := by decide +kernel
theorem wb_cu : ∀ k, k < 64 → ((nI k).toInt64.toUInt64 &&& Int64.toUInt64 63) = UInt64.ofNat k := by decide +kernel
theorem wb_sm : ∀ k, k < 64 → (BitVec.ofNat 64 k).smod 64 = BitVec.ofNat 64 k := by decide +kernel
theorem wb_shr {n k : Nat} (hn : n < 2 ^ 64) (hk : k < 64) : ((lN n).toUInt64 >>> ((nI k).toInt64.toUInt64 &&& Int64.toUInt64 63)).toInt64 = lN (n / 2 ^ k) := by
  rw [wb_cu k hk]
  apply wb_inj
  apply BitVec.eq_of_toNat_eq
  show ((lN n).toUInt64 >>> UInt64.ofNat k).toNat = (BitVec.ofNat 64 _).toNat
  have h1 : (UInt64.ofNat k).toNat = k := by
    show (BitVec.ofNat 64 k).toNat = k
    rw [BitVec.toNat_ofNat, Nat.mod_eq_of_lt (by omega)]
  have h2 : (lN n).toUInt64.toNat = n := wb_tn hn
  rw [UInt64.toNat_shiftRight, h1, h2, Nat.mod_eq_of_lt hk, Nat.shiftRight_eq_div_pow, BitVec.toNat_ofNat, Nat.mod_eq_of_lt (Nat.lt_of_le_of_lt (Nat.div_le_self _ _) hn)]
theorem wb_shl (n : Nat) {k : Nat} (hk : k < 64) : lN n <<< ((nI k).toInt64 &&& 63) = lN (n * 2 ^ k) := by
  rw [wb_c k hk]
  apply wb_inj
  rw [Int64.toBitVec_shiftLeft, wb_tb, wb_tb, wb_tb, wb_sm k hk]
  apply BitVec.eq_of_toNat_eq
  rw [BitVec.shiftLeft_eq', BitVec.toNat_shiftLeft, BitVec.toNat_ofNat, BitVec.toNat_ofNat, BitVec.toNat_ofNat, Nat.mod_eq_of_lt (show k < 2 ^ 64 by omega), Nat.shiftLeft_eq, Nat.mul_mod, Nat.mod_mod, ← Nat.mul_mod]
theorem wb_or {a b : Nat} (ha : a < 2 ^ 64) (hb : b < 2 ^ 64) : lN a ||| lN b = lN (a ||| b) := by
  apply wb_inj
  rw [Int64.toBitVec_or, wb_tb, wb_tb, wb_tb]
  apply BitVec.eq_of_toNat_eq
  rw [BitVec.toNat_or, BitVec.toNat_ofNat, BitVec.toNat_ofNat, BitVec.toNat_ofNat, Nat.mod_eq_of_lt ha, Nat.mod_eq_of_lt hb, Nat.mod_eq_of_lt (Nat.or_lt_two_pow ha hb)]
theorem ln_eq (n : Nat) : Int64.ofInt (n : Int) = lN n := Int64.ofInt_eq_ofNat
theorem in_eq (n : Nat) : Int32.ofInt (n : Int) = nI n := Int32.ofInt_eq_ofNat
theorem n_eq {y : Int32} {k : Nat} (hy : y.toInt = (k : Int)) : y = nI k := by rw [i_of hy, in_eq]
/-- shifts of a natural number, by a count of less than 64 -/
theorem n_shl (n : Nat) {k : Nat} {y : Int32} (hy : y.toInt = (k : Int)) (hk : k < 64) : Int64.ofInt (n : Int) <<< (y.toInt64 &&& 63) = Int64.ofInt ((n * 2 ^ k : Nat) : Int) := by
  rw [n_eq hy, ln_eq, ln_eq, wb_shl n hk]
theorem n_ushr {n k : Nat} {y : Int32} (hy : y.toInt = (k : Int)) (hk : k < 64) (hn : n < 2 ^ 64) : ((Int64.ofInt (n : Int)).toUInt64 >>> (y.toInt64.toUInt64 &&& Int64.toUInt64 63)).toInt64 = Int64.ofInt ((n / 2 ^ k : Nat) : Int) := by
  rw [n_eq hy, ln_eq, ln_eq, wb_shr hn hk]
theorem n_shr {n k : Nat} {y : Int32} (hy : y.toInt = (k : Int)) (hk : k < 64) (hn : n < 2 ^ 63) : Int64.ofInt (n : Int) >>> (y.toInt64 &&& 63) = Int64.ofInt ((n / 2 ^ k : Nat) : Int) := by
  apply Int64.toInt_inj.mp
  have e0 : ((((nI k).toInt64 &&& 63).toBitVec).smod 64).toNat = k := by
    rw [wb_c k hk, wb_tb]
    show ((BitVec.ofNat 64 k).smod 64).toNat = k
    rw [wb_sm k hk, BitVec.toNat_ofNat, Nat.mod_eq_of_lt (by omega)]
  rw [n_eq hy]
  have e : ∀ d, ((((nI k).toInt64 &&& 63).toBitVec).smod 64).toNat = d → (Int64.ofInt (n : Int) >>> ((nI k).toInt64 &&& 63)).toInt = (Int64.ofInt (n : Int)).toInt >>> d := by
    intro d hd
    rw [← hd]
    exact BitVec.toInt_sshiftRight ..
  have hd : n / 2 ^ k ≤ n := Nat.div_le_self _ _
  rw [e k e0, Int.shiftRight_eq_div_pow, li_toInt (by omega) (by omega)]
  have e3 : (n : Int) / ((2 ^ k : Nat) : Int) = ((n / 2 ^ k : Nat) : Int) := (Int.natCast_ediv n (2 ^ k)).symm
  rw [e3]
  generalize n / 2 ^ k = q at hd
  rw [li_toInt (by omega) (by omega)]
/-- two parts that don't meet -/
theorem n_or {a b k : Nat} (hb : b < 2 ^ k) (h : a * 2 ^ k + b < 2 ^ 64) : Int64.ofInt ((a * 2 ^ k : Nat) : Int) ||| Int64.ofInt (b : Int) = Int64.ofInt ((a * 2 ^ k + b : Nat) : Int) := by
  rw [ln_eq, ln_eq, ln_eq, wb_or (by omega) (by omega)]
  congr 1
  rw [← Nat.shiftLeft_eq, Nat.shiftLeft_add_eq_or_of_lt hb]
theorem n_or' {a b k : Nat} (hb : b < 2 ^ k) (h : a * 2 ^ k + b < 2 ^ 64) : Int64.ofInt (b : Int) ||| Int64.ofInt ((a * 2 ^ k : Nat) : Int) = Int64.ofInt ((a * 2 ^ k + b : Nat) : Int) := by
  rw [Int64.or_comm, n_or hb h]
theorem n_div {a b : Nat} (ha : a < 2 ^ 63) (hb : b < 2 ^ 63) : Int64.ofInt (a : Int) / Int64.ofInt (b : Int) = Int64.ofInt ((a / b : Nat) : Int) := by
  apply Int64.toInt_inj.mp
  have hd : a / b ≤ a := Nat.div_le_self _ _
  have e : (a : Int).tdiv (b : Int) = ((a / b : Nat) : Int) := by rw [Int.tdiv_eq_ediv_of_nonneg (by omega), ← Int.natCast_ediv]
  rw [Int64.toInt_div, li_toInt (by omega) (by omega), li_toInt (by omega) (by omega), e]
  generalize a / b = q at hd
  rw [li_toInt (by omega) (by omega)]
  exact Int.bmod_eq_of_le (by omega) (by omega)
theorem n_rem {a b : Nat} (ha : a < 2 ^ 63) (hb : b < 2 ^ 63) : Int64.ofInt (a : Int) - Int64.ofInt (a : Int) / Int64.ofInt (b : Int) * Int64.ofInt (b : Int) = Int64.ofInt ((a % b : Nat) : Int) := by
  rw [n_div ha hb, li_mul, li_sub]
  congr 1
  have := Nat.div_add_mod a b
  rw [Nat.mul_comm] at this
  rw [← Int.natCast_mul]
  omega
theorem i_div {a b : Nat} (ha : a < 2 ^ 31) (hb : b < 2 ^ 31) : Int32.ofInt (a : Int) / Int32.ofInt (b : Int) = Int32.ofInt ((a / b : Nat) : Int) := by
  apply Int32.toInt_inj.mp
  have hd : a / b ≤ a := Nat.div_le_self _ _
  have e : (a : Int).tdiv (b : Int) = ((a / b : Nat) : Int) := by rw [Int.tdiv_eq_ediv_of_nonneg (by omega), ← Int.natCast_ediv]
  rw [Int32.toInt_div, ii_toInt (by omega) (by omega), ii_toInt (by omega) (by omega), e]
  generalize a / b = q at hd
  rw [ii_toInt (by omega) (by omega)]
  exact Int.bmod_eq_of_le (by omega) (by omega)
theorem i_rem {a b : Nat} (ha : a < 2 ^ 31) (hb : b < 2 ^ 31) : Int32.ofInt (a : Int) - Int32.ofInt (a : Int) / Int32.ofInt (b : Int) * Int32.ofInt (b : Int) = Int32.ofInt ((a % b : Nat) : Int) := by
  rw [i_div ha hb, ii_mul, ii_sub]
  congr 1
  have := Nat.div_add_mod a b
  rw [Nat.mul_comm] at this
  rw [← Int.natCast_mul]
  omega
section RWdiv
variable {Q : xR → xO → Prop} {y : Nat} {is : List xI} {lv : List Value} {o : xO} {len a b : Nat} {v : Value}
theorem RW.ldv {x w : Int64} {r : List Value} (hw : ¬ w = 0) (k : RW Q y is lv (.long (x / w) :: r) o) : RW Q y ((.ldiv, len, v, a, b) :: is) lv (.long w :: .long x :: r) o :=
  RW.hp rfl (by show (if w = 0 then none else _) = _; exact if_neg hw) k
theorem RW.lrm {x w : Int64} {r : List Value} (hw : ¬ w = 0) (k : RW Q y is lv (.long (x - x / w * w) :: r) o) : RW Q y ((.lrem, len, v, a, b) :: is) lv (.long w :: .long x :: r) o :=
  RW.hp rfl (by show (if w = 0 then none else _) = _; exact if_neg hw) k
theorem RW.idv {x w : Int32} {r : List Value} (hw : ¬ w = 0) (k : RW Q y is lv (.int (x / w) :: r) o) : RW Q y ((.idiv, len, v, a, b) :: is) lv (.int w :: .int x :: r) o :=
  RW.hp rfl (by show (if w = 0 then none else _) = _; exact if_neg hw) k
theorem RW.irm {x w : Int32} {r : List Value} (hw : ¬ w = 0) (k : RW Q y is lv (.int (x - x / w * w) :: r) o) : RW Q y ((.irem, len, v, a, b) :: is) lv (.int w :: .int x :: r) o :=
  RW.hp rfl (by show (if w = 0 then none else _) = _; exact if_neg hw) k
end RWdiv
/-! x div d, a limb at a time from the top -/
theorem dg_up (x k : Nat) : x / 2147483648 ^ k = x / 2147483648 ^ (k + 1) * 2147483648 + dg x k := by
  unfold dg
  rw [Nat.pow_succ, ← Nat.div_div_eq_div_mul]
  have := Nat.div_add_mod (x / 2147483648 ^ k) 2147483648
  omega
theorem part_step {x d k : Nat} (hd : 0 < d) : (x / 2147483648 ^ (k + 1) % d * 2147483648 + dg x k) / d = dg (x / d) k ∧ (x / 2147483648 ^ (k + 1) % d * 2147483648 + dg x k) % d = x / 2147483648 ^ k % d := by
  have h1 := dg_up x k
  have hb := dg_lt x k
  have h2 : x / d / 2147483648 ^ k = x / 2147483648 ^ k / d := by rw [Nat.div_div_eq_div_mul, Nat.div_div_eq_div_mul, Nat.mul_comm]
  generalize x / 2147483648 ^ (k + 1) = q at h1 ⊢
  have h3 := Nat.div_add_mod q d
  have h4 : q * 2147483648 + dg x k = (q % d * 2147483648 + dg x k) + d * (q / d * 2147483648) := by
    conv => lhs; rw [← h3, Nat.add_mul, Nat.mul_assoc]
    omega
  have h5 : (q % d * 2147483648 + dg x k) / d < 2147483648 := by
    rw [Nat.div_lt_iff_lt_mul hd]
    have := Nat.mod_lt q hd
    have h6 : (q % d + 1) * 2147483648 ≤ d * 2147483648 := Nat.mul_le_mul_right _ this
    omega
  constructor
  · conv => rhs; unfold dg
    rw [h2, h1, h4, Nat.add_mul_div_left _ _ hd, Nat.add_mul_mod_self_right, Nat.mod_eq_of_lt h5]
  · rw [h1, h4, Nat.add_mul_mod_self_left]
/-- from place k on Z, below it x -/
def my (Z x k : Nat) : Nat → Int32 := fun j => if k ≤ j then lm Z j else lm x j
theorem my_step {Z x k : Nat} {s : Int} (h : s % 2147483648 = (dg Z k : Int)) : (fun j => if j = k then Int32.ofInt (s % 2147483648) else my Z x (k + 1) j) = my Z x k := by
  funext j
  unfold my
  by_cases hj : j = k
  · rw [if_pos hj, if_pos (by omega), h, hj]; rfl
  · rw [if_neg hj]
    by_cases hk : k + 1 ≤ j
    · rw [if_pos hk, if_pos (by omega)]
    · rw [if_neg hk, if_neg (by omega)]
theorem my_0 (Z x : Nat) : my Z x 0 = lm Z := by funext j; exact if_pos (Nat.zero_le j)
theorem my_at {Z x k j : Nat} (h : j < k) : my Z x k j = Int32.ofInt (dg x j) := if_neg (by omega)
theorem my_all {Z x k : Nat} (hx : nl x ≤ k) (hZ : nl Z ≤ k) : my Z x k = lm x := by
  funext j
  unfold my
  by_cases hj : k ≤ j
  · rw [if_pos hj]; unfold lm; rw [dg_zero' (x := x) (by omega), dg_zero' (x := Z) (by omega)]
  · rw [if_neg hj]
theorem nl_mono {x y : Nat} (h : x ≤ y) : nl x ≤ nl y := nl_le.mpr (Nat.lt_of_le_of_lt h (nl_le.mp (Nat.le_refl (nl y))))
theorem c_partBy {o : xO} {a x d : Nat} {dw : Int32} (ha : Rn o a x) (hd : dw.toInt = (d : Int)) (hd0 : 0 < d) : Cq y_Row_partBy [.ref a, .int dw] o (fun v o' => v = .int (Int32.ofInt ((x % d : Nat) : Int)) ∧ o' = sNum o a (x / d)) := by
  have hnx := big_nl ha.2.1
  have hd2 : d < 2147483648 := by have := dw.toInt_lt; omega
  have hzx : x / d ≤ x := Nat.div_le_self _ _
  have hzb : x / d < BIG := Nat.lt_of_le_of_lt hzx ha.2.1
  have hnz := nl_mono hzx
  have hdl : dw.toInt64 = Int64.ofInt (d : Int) := by rw [i_of hd, ii_l (by omega) (by omega)]
  have hd0' : ¬ Int64.ofInt (d : Int) = 0 := by rw [l0, li_eq (by omega) (by omega) (by omega) (by omega)]; omega
  refine RW.ps 1 rfl ?_
  refine RW.ifc (fun _ => ?_) (fun h1 => ?_)
  · refine RW.ps 3 rfl ?_
    refine RW.gf ha.1.1 ha.2.2.2 ?_
    refine RW.ps 3 rfl ?_
    have loop : ∀ k (i : Int32) (rw0 : Int64), k ≤ nl x → i.toInt = (k : Int) - 1 → rw0 = Int64.ofInt ((x / 2147483648 ^ k % d : Nat) : Int) → ∀ w, w = sRow o a (my (x / d) x k) (nl x) → RW (fun r' o' => ∃ v, r' = .inl (some v) ∧ v = .int (Int32.ofInt ((x % d : Nat) : Int)) ∧ o' = sNum o a (x / d)) y_Row_partBy (xbk y_Row_partBy 16)
        [.ref a, .int dw, .long rw0, xj, .int i] [] w := by
      intro k
      induction k with
      | zero =>
        intro i rw0 hk hi hr w hw
        subst hw
        subst hr
        refine RW.ps 1 rfl ?_
        refine RW.ifc (fun _ => ?_) (fun h1 => ?_)
        · refine RW.ps 1 rfl ?_
          rw [my_0]
          refine RW.cv rfl rfl (xrc_v rfl rfl (IsRow.s ha.1).1) rfl rfl (c_trim ha.1 hzb (nl x - nl (x / d)) (nl x) (by omega) (by omega)) ?_
          intro o' ho'
          refine RW.ps 2 rfl ?_
          rw [ii_toInt32, Nat.pow_zero, Nat.div_one]
          exact RW.re rfl rfl ⟨_, rfl, rfl, ho'⟩
        · rw [xi_lt, hi, i0] at h1; omega
      | succ k ih =>
        intro i rw0 hk hi hr w hw
        subst hw
        subst hr
        have hi' : i.toInt = (k : Int) := by omega
        have hdx := dg_lt x k
        have hmd := Nat.mod_lt (x / 2147483648 ^ (k + 1)) hd0
        obtain ⟨e1, e2⟩ := part_step (x := x) (k := k) hd0
        have hq := dg_lt (x / d) k
        generalize x / 2147483648 ^ (k + 1) % d = rr at hmd e1 e2
        refine RW.ps 1 rfl ?_
        refine RW.ifc (fun h1 => ?_) (fun _ => ?_)
        · rw [xi_lt, hi, i0] at h1; omega
        · refine RW.ps 3 rfl ?_
          rw [n_shl (k := 31) rr rfl (by omega)]
          refine RW.ps 2 rfl ?_
          refine RW.cp rfl rfl (xrc_v rfl rfl (IsRow.s ha.1).1) rfl rfl (c_dg (IsRow.s ha.1) hi' ha.2.1 (by rw [sRow_i]; exact my_at (by omega))) ?_
          refine RW.ps 1 rfl ?_
          rw [n_or (k := 31) hdx (by omega)]
          refine RW.ps 6 rfl ?_
          rw [hdl]
          refine RW.ldv hd0' ?_
          rw [n_div (by omega) (by omega)]
          refine RW.cv rfl rfl (xrc_v rfl rfl (IsRow.s ha.1).1) rfl rfl (c_put (IsRow.s ha.1) hi' sRow_i sRow_f (by omega) (by omega)) ?_
          intro o' ho'
          refine RW.ps 3 rfl ?_
          rw [hdl]
          refine RW.lrm hd0' ?_
          rw [n_rem (by omega) (by omega)]
          refine RW.ps 2 rfl ?_
          refine RW.go ?_
          have e1' : (rr * 2 ^ 31 + dg x k) / d = dg (x / d) k := e1
          have e2' : (rr * 2 ^ 31 + dg x k) % d = x / 2147483648 ^ k % d := e2
          refine ih (i + Int32.ofInt (-1)) _ (by omega) ?_ (by rw [e2']) o' ?_
          · rw [Int32.toInt_add, hi', show (Int32.ofInt (-1)).toInt = -1 by decide, Int.bmod_eq_of_le (by omega) (by omega)]
            omega
          · rw [ho', sRow_s, e1', my_step (by omega), show max (nl x) (k + 1) = nl x by omega]
    refine loop (nl x) _ 0 (Nat.le_refl _) ?_ ?_ o ?_
    · rw [Int32.toInt_sub, iu (by omega), show (1 : Int32).toInt = 1 by decide, Int.bmod_eq_of_le (by omega) (by omega)]
    · rw [Nat.div_eq_of_lt (nl_le.mp (Nat.le_refl _)), Nat.zero_mod]; decide
    · rw [my_all (Nat.le_refl _) hnz]; exact ha.eta.symm
  · rw [xi_gt, hd, i0] at h1; omega
