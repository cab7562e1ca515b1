/-! DIVISION: how near the estimate of a limb comes. -/
theorem est {R D P U V pair top third second q0 e : Nat} (hU1 : U * P ≤ R * 2147483648) (hU2 : R * 2147483648 < (U + 1) * P) (hV1 : V * P ≤ D * 2147483648) (hV2 : D * 2147483648 < (V + 1) * P)
    (hU : U = pair * 2147483648 + third) (h3 : third < 2147483648) (hV : V = top * 2147483648 + second) (h2 : second < 2147483648) (ht : 1073741824 ≤ top) (hRD : R < D * 2147483648)
    (hq0 : q0 = min (pair / top) 2147483647) (he : e = if q0 * V ≤ U then q0 else q0 - 1) : R < (e + 1) * D ∧ (e - 1) * D ≤ R ∧ e < 2147483648 := by
  have hqB : q0 ≤ 2147483647 := by rw [hq0]; exact Nat.min_le_right _ _
  have heq : e ≤ q0 := by rw [he]; split <;> omega
  have hqp : q0 * top ≤ pair := by
    have h1 : q0 ≤ pair / top := by rw [hq0]; exact Nat.min_le_left _ _
    exact Nat.le_trans (Nat.mul_le_mul_right _ h1) (Nat.div_mul_le_self _ _)
  refine ⟨?_, ?_, by omega⟩
  · apply Nat.lt_of_not_le
    intro h
    have a1 : (e + 1) * V * P ≤ (e + 1) * D * 2147483648 := by rw [Nat.mul_assoc, Nat.mul_assoc]; exact Nat.mul_le_mul_left _ hV1
    have a2 : (e + 1) * D * 2147483648 ≤ R * 2147483648 := Nat.mul_le_mul_right _ h
    have a3 : (e + 1) * V < U + 1 := Nat.lt_of_mul_lt_mul_right (a := P) (by omega)
    by_cases hc : q0 * V ≤ U
    · rw [if_pos hc] at he
      subst he
      have a4 : (e + 1) * top ≤ pair := by
        have a5 : (e + 1) * V = (e + 1) * top * 2147483648 + (e + 1) * second := by rw [hV, Nat.mul_add, Nat.mul_assoc]
        rw [a5] at a3
        generalize (e + 1) * top = t at a3 ⊢
        generalize (e + 1) * second = t2 at a3
        omega
      have a6 : e + 1 ≤ pair / top := (Nat.le_div_iff_mul_le (by omega)).mpr a4
      have a7 : e = 2147483647 := by
        generalize pair / top = g at a6 hq0
        omega
      subst a7
      omega
    · rw [if_neg hc] at he
      have a8 : q0 ≠ 0 := by intro z; rw [z, Nat.zero_mul] at hc; omega
      have a9 : e + 1 = q0 := by omega
      rw [a9] at a3
      omega
  · cases e with
    | zero => simp
    | succ f =>
      show f * D ≤ R
      have b1 : f * V + f ≤ U := by
        by_cases hc : q0 * V ≤ U
        · rw [if_pos hc] at he
          rw [← he, Nat.succ_mul] at hc
          omega
        · rw [if_neg hc] at he
          have b2 : q0 = f + 2 := by omega
          have b3 : q0 * V = q0 * top * 2147483648 + q0 * second := by rw [hV, Nat.mul_add, Nat.mul_assoc]
          have b4 : q0 * second ≤ 2147483647 * 2147483647 := Nat.mul_le_mul hqB (by omega)
          have b5 : q0 * V = f * V + 2 * V := by rw [b2, Nat.add_mul]
          generalize q0 * top = t at hqp b3
          generalize q0 * second = t2 at b3 b4
          generalize q0 * V = t3 at b3 b5
          generalize f * V = t4 at b5 ⊢
          omega
      have b6 : f * (D * 2147483648) ≤ f * ((V + 1) * P) := Nat.mul_le_mul_left _ (Nat.le_of_lt hV2)
      have b7 : f * ((V + 1) * P) = (f * V + f) * P := by rw [← Nat.mul_assoc, Nat.mul_add, Nat.mul_one]
      have b8 : (f * V + f) * P ≤ U * P := Nat.mul_le_mul_right _ b1
      rw [← Nat.mul_assoc] at b6
      omega
section RWtop
variable {Q : xR → xO → Prop} {y : Nat} {is : List xI} {lv st : List Value} {o : xO}
theorem RW.sk (st0 : List Value) (h : st = st0) (k : RW Q y is lv st0 o) : RW Q y is lv st o := by rw [h]; exact k
theorem RW.top {w w' : Value} {s : List Value} (h : w = w') (k : RW Q y is lv (w' :: s) o) : RW Q y is lv (w :: s) o := by rw [h]; exact k
end RWtop
def estN (pair top third second : Nat) : Nat := if min (pair / top) 2147483647 * (top * 2147483648 + second) ≤ pair * 2147483648 + third then min (pair / top) 2147483647 else min (pair / top) 2147483647 - 1
/-- a divider: rows quotient d+1, rest d+3, scaled d+5 -/
def IsDv (o : xO) (d : Nat) : Prop := xk o d = (3, 3) ∧ xf o d 0 = .ref (d + 1) ∧ xf o d 1 = .ref (d + 3) ∧ xf o d 2 = .ref (d + 5)
/-- a row that holds a number, with room above it -/
def Rl (o : xO) (r x : Nat) : Prop := IsRow o r ∧ x < BIG ∧ xi o (r + 1) = lm x
theorem Rn.l {o : xO} {r x : Nat} (h : Rn o r x) : Rl o r x := ⟨h.1, h.2.1, h.2.2.1⟩
theorem i_sub1 {u : Nat} (h : u < 2147483647) (h0 : 0 < u) : (Int32.ofInt (u : Int) - 1).toInt = ((u - 1 : Nat) : Int) := by rw [i_subnat (iu (by omega)) (by omega)]; omega
theorem c_prev2 {o : xO} {q k x : Nat} {i : Int32} (h : Rl o q x) (hi : i.toInt = ((k + 1 : Nat) : Int)) (hk : k < 2147483640) : Cp y_Row_at [.ref q, .int (i - 2)] o (.long (Int64.ofInt (pd x k : Nat))) := by
  have h1 : (i - 2).toInt = (k : Int) - 1 := by
    rw [Int32.toInt_sub, hi]
    show (((k + 1 : Nat) : Int) - 2).bmod (2 ^ 32) = _
    rw [Int.bmod_eq_of_le (by omega) (by omega)]
    omega
  cases k with
  | zero => exact c_at_neg (by rw [h1]; decide)
  | succ k => exact c_dg h.1 (by rw [h1]; omega) h.2.1 (by rw [h.2.2]; rfl)
theorem lcmp_le {a b : Nat} (ha : a < 2 ^ 63) (hb : b < 2 ^ 63) : xcd .le (lg_cmp (Int64.ofInt (a : Int)) (Int64.ofInt (b : Int))) 0 ↔ a ≤ b := by
  rw [xi_le, cmp_toInt (by omega) (by omega) (by omega) (by omega), i0]
  by_cases h : b < a
  · rw [if_pos (by omega)]; omega
  · rw [if_neg (by omega)]
    by_cases h' : a = b
    · rw [if_pos (by omega)]; omega
    · rw [if_neg (by omega)]; omega
theorem lcmp_gt {a b : Nat} (ha : a < 2 ^ 63) (hb : b < 2 ^ 63) : xcd .gt (lg_cmp (Int64.ofInt (a : Int)) (Int64.ofInt (b : Int))) 0 ↔ b < a := by
  have := lcmp_le ha hb
  rw [xi_le, i0] at this
  rw [xi_gt, i0]
  omega
theorem lcmp_ne {a b : Nat} (ha : a < 2 ^ 63) (hb : b < 2 ^ 63) : xcd .ne (lg_cmp (Int64.ofInt (a : Int)) (Int64.ofInt (b : Int))) 0 ↔ a ≠ b := by
  rw [xi_ne, cmp_toInt (by omega) (by omega) (by omega) (by omega), i0]
  by_cases h : b < a
  · rw [if_pos (by omega)]; omega
  · rw [if_neg (by omega)]
    by_cases h' : a = b
    · rw [if_pos (by omega)]; omega
    · rw [if_neg (by omega)]; omega
theorem c_estimate {o : xO} {d S R n k : Nat} {kw : Int32} (hd : IsDv o d) (hs : Rn o (d + 5) S) (hr : Rl o (d + 3) R) (hn : nl S = n + 1) (hk : kw.toInt = (k : Int)) (hkn : k + n < 1000)
    (ht : 1073741824 ≤ dg S n) : Cp y_Divider_estimate [.ref d, .int kw] o (.long (Int64.ofInt (estN (dg R (k + n + 1) * 2147483648 + dg R (k + n)) (dg S n) (pd R (k + n)) (pd S n) : Nat))) := by
  have hnS := big_nl hs.2.1
  have hd1 := dg_lt R (k + n + 1)
  have hd2 := dg_lt R (k + n)
  have hd3 := pd_lt R (k + n)
  have hd4 := dg_lt S n
  have hd5 := pd_lt S n
  have hb : (kw + Int32.ofInt (nl S : Nat)).toInt = ((k + n + 1 : Nat) : Int) := by rw [i_add hk (iu (by omega)) (by omega)]; omega
  have hs1 : (Int32.ofInt (nl S : Nat) - 1).toInt = (n : Int) := by rw [i_sub1 (by omega) (by omega)]; omega
  refine RW.ps 2 rfl ?_
  refine RW.gf hd.1 hd.2.2.2 ?_
  refine RW.gf hs.1.1 hs.2.2.2 ?_
  refine RW.ps 3 rfl ?_
  generalize hbw : kw + Int32.ofInt (nl S : Nat) = bw at hb
  refine RW.weak (lv0 := [.ref d, .int kw, .int bw, xj, xj, xj, xj, xj, xj, xj, xj, xj, xj]) ⟨Or.inr rfl, Or.inr rfl, Or.inr rfl, Or.inl rfl, Or.inl rfl, Or.inl rfl, Or.inl rfl, Or.inl rfl, Or.inl rfl, Or.inl rfl, Or.inl rfl, Or.inl rfl, Or.inl rfl, trivial⟩ ?_
  refine RW.sk [.ref d] rfl ?_
  refine RW.gf hd.1 hd.2.2.2 ?_
  refine RW.ps 1 rfl ?_
  refine RW.gf hd.1 hd.2.2.2 ?_
  refine RW.gf hs.1.1 hs.2.2.2 ?_
  refine RW.ps 2 rfl ?_
  refine RW.cp rfl rfl (xrc_v rfl rfl hs.1.1) rfl rfl (c_dg hs.1 hs1 hs.2.1 (by rw [hs.2.2.1]; rfl)) ?_
  refine RW.ps 2 rfl ?_
  refine RW.gf hd.1 hd.2.2.2 ?_
  refine RW.ps 1 rfl ?_
  refine RW.gf hd.1 hd.2.2.2 ?_
  refine RW.gf hs.1.1 hs.2.2.2 ?_
  refine RW.ps 2 rfl ?_
  refine RW.cp rfl rfl (xrc_v rfl rfl hs.1.1) rfl rfl (c_prev2 (k := n) hs.l (by rw [iu (by omega), hn]) (by omega)) ?_
  refine RW.ps 4 rfl ?_
  refine RW.ifc (fun _ => ?_) (fun h1 => ?_)
  · refine RW.weak (lv0 := [.ref d, .int kw, .int bw, .long (Int64.ofInt (dg S n : Nat)), xj, .long (Int64.ofInt (pd S n : Nat)), xj, xj, xj, xj, xj, xj, xj]) ⟨Or.inr rfl, Or.inr rfl, Or.inr rfl, Or.inr rfl, Or.inl rfl, Or.inr rfl, Or.inl rfl, Or.inl rfl, Or.inl rfl, Or.inl rfl, Or.inl rfl, Or.inl rfl, Or.inl rfl, trivial⟩ ?_
    refine RW.sk [] rfl ?_
    refine RW.ps 1 rfl ?_
    refine RW.gf hd.1 hd.2.2.1 ?_
    refine RW.ps 1 rfl ?_
    refine RW.cp rfl rfl (xrc_v rfl rfl hr.1.1) rfl rfl (c_dg hr.1 hb hr.2.1 (by rw [hr.2.2]; rfl)) ?_
    refine RW.ps 2 rfl ?_
    refine RW.top (congrArg Value.long (n_shl (k := 31) (dg R (k + n + 1)) rfl (by decide))) ?_
    refine RW.ps 1 rfl ?_
    refine RW.gf hd.1 hd.2.2.1 ?_
    refine RW.ps 3 rfl ?_
    have hb1 : (bw - 1).toInt = ((k + n : Nat) : Int) := by rw [i_subnat hb (by omega)]; omega
    refine RW.cp rfl rfl (xrc_v rfl rfl hr.1.1) rfl rfl (c_dg hr.1 hb1 hr.2.1 (by rw [hr.2.2]; rfl)) ?_
    refine RW.ps 1 rfl ?_
    refine RW.top (congrArg Value.long (n_or (k := 31) hd2 (by omega))) ?_
    refine RW.weak (lv0 := [.ref d, .int kw, .int bw, .long (Int64.ofInt (dg S n : Nat)), xj, .long (Int64.ofInt (pd S n : Nat)), xj, xj, xj, xj, xj, xj, xj]) ⟨Or.inr rfl, Or.inr rfl, Or.inr rfl, Or.inr rfl, Or.inl rfl, Or.inr rfl, Or.inl rfl, Or.inl rfl, Or.inl rfl, Or.inl rfl, Or.inl rfl, Or.inl rfl, Or.inl rfl, trivial⟩ ?_
    refine RW.sk [.long (Int64.ofInt ((dg R (k + n + 1) * 2 ^ 31 + dg R (k + n) : Nat) : Int))] rfl ?_
    have hpl : dg R (k + n + 1) * 2 ^ 31 + dg R (k + n) < 2 ^ 62 := by omega
    rw [show dg R (k + n + 1) * 2147483648 + dg R (k + n) = dg R (k + n + 1) * 2 ^ 31 + dg R (k + n) from rfl]
    generalize dg R (k + n + 1) * 2 ^ 31 + dg R (k + n) = pair at hpl
    generalize dg S n = top at ht hd4
    generalize pd S n = second at hd5
    generalize hth : pd R (k + n) = third at hd3
    refine RW.ps 3 rfl ?_
    have htz : ¬ Int64.ofInt (top : Int) = 0 := by rw [l0, li_eq (by omega) (by omega) (by omega) (by omega)]; omega
    refine RW.ldv htz ?_
    refine RW.top (congrArg Value.long (n_div (by omega) (by omega))) ?_
    refine RW.ps 1 rfl ?_
    refine RW.mminl (Nat.le_refl 0 |> fun _ => by show 0 ≤ 8; decide) ?_
    have hq0 : (if (2147483647 : Int64) < Int64.ofInt ((pair / top : Nat) : Int) then (2147483647 : Int64) else Int64.ofInt ((pair / top : Nat) : Int)) = Int64.ofInt ((min (pair / top) 2147483647 : Nat) : Int) := by
      have hp : pair / top < 2 ^ 62 := Nat.lt_of_le_of_lt (Nat.div_le_self _ _) hpl
      generalize pair / top = g at hp
      by_cases h : 2147483647 < g
      · rw [if_pos (by rw [show (2147483647 : Int64) = Int64.ofInt 2147483647 by decide, li_lt (by omega) (by omega) (by omega) (by omega)]; omega), Nat.min_eq_right (by omega)]; rfl
      · rw [if_neg (by rw [show (2147483647 : Int64) = Int64.ofInt 2147483647 by decide, li_lt (by omega) (by omega) (by omega) (by omega)]; omega), Nat.min_eq_left (by omega)]
    refine RW.top (congrArg Value.long (hq0)) ?_
    refine RW.weak (lv0 := [.ref d, .int kw, .int bw, .long (Int64.ofInt (top : Nat)), xj, .long (Int64.ofInt (second : Nat)), xj, .long (Int64.ofInt (pair : Nat)), xj, xj, xj, xj, xj]) ⟨Or.inr rfl, Or.inr rfl, Or.inr rfl, Or.inr rfl, Or.inl rfl, Or.inr rfl, Or.inl rfl, Or.inr rfl, Or.inl rfl, Or.inl rfl, Or.inl rfl, Or.inl rfl, Or.inl rfl, trivial⟩ ?_
    refine RW.sk [.long (Int64.ofInt ((min (pair / top) 2147483647 : Nat) : Int))] rfl ?_
    unfold estN
    have hqB : min (pair / top) 2147483647 ≤ 2147483647 := Nat.min_le_right _ _
    have hqp : min (pair / top) 2147483647 * top ≤ pair := Nat.le_trans (Nat.mul_le_mul_right _ (Nat.min_le_left _ _)) (Nat.div_mul_le_self _ _)
    generalize min (pair / top) 2147483647 = q0 at hqB hqp
    have hq2 : q0 * second ≤ 2147483647 * 2147483647 := Nat.mul_le_mul hqB (by omega)
    have hV : q0 * (top * 2147483648 + second) = q0 * top * 2147483648 + q0 * second := by rw [Nat.mul_add, Nat.mul_assoc]
    obtain ⟨over, hover⟩ : ∃ over, pair = q0 * top + over := ⟨pair - q0 * top, by omega⟩
    have hov : Int64.ofInt (pair : Int) - Int64.ofInt (q0 : Int) * Int64.ofInt (top : Int) = Int64.ofInt (over : Int) := by rw [li_mul, li_sub, ← Int.natCast_mul]; congr 1; omega
    refine RW.ps 6 rfl ?_
    refine RW.top (congrArg Value.long (hov)) ?_
    refine RW.ps 4 rfl ?_
    refine RW.weak (lv0 := [.ref d, .int kw, .int bw, xj, xj, .long (Int64.ofInt (second : Nat)), xj, xj, xj, .long (Int64.ofInt (q0 : Nat)), xj, .long (Int64.ofInt (over : Nat)), xj]) ⟨Or.inr rfl, Or.inr rfl, Or.inr rfl, Or.inl rfl, Or.inl rfl, Or.inr rfl, Or.inl rfl, Or.inl rfl, Or.inl rfl, Or.inr rfl, Or.inl rfl, Or.inr rfl, Or.inl rfl, trivial⟩ ?_
    refine RW.sk [.int (lg_cmp (Int64.ofInt (over : Nat)) (Int64.ofInt ((2147483647 : Nat) : Int)))] rfl ?_
    refine RW.ifc (fun h1 => ?_) (fun h1 => ?_)
    · rw [lcmp_gt (by omega) (by omega)] at h1
      rw [hV, if_pos (by generalize q0 * top = t at hover ⊢; generalize q0 * second = t2 at hq2 ⊢; omega)]
      refine RW.ps 1 rfl ?_
      exact RW.re rfl rfl ⟨rfl, rfl⟩
    · rw [lcmp_gt (by omega) (by omega)] at h1
      refine RW.ps 3 rfl ?_
      refine RW.top (congrArg Value.long ((li_mul (q0 : Int) (second : Int)).trans (congrArg Int64.ofInt (Int.natCast_mul q0 second).symm))) ?_
      refine RW.ps 3 rfl ?_
      refine RW.top (congrArg Value.long (n_shl (k := 31) over rfl (by decide))) ?_
      refine RW.ps 1 rfl ?_
      refine RW.gf hd.1 hd.2.2.1 ?_
      refine RW.ps 3 rfl ?_
      have cth := c_prev2 (k := k + n) hr hb (by omega)
      rw [hth] at cth
      refine RW.cp rfl rfl (xrc_v rfl rfl hr.1.1) rfl rfl (cth) ?_
      refine RW.ps 1 rfl ?_
      refine RW.top (congrArg Value.long (n_or (k := 31) (a := over) hd3 (by omega))) ?_
      refine RW.ps 1 rfl ?_
      refine RW.weak (lv0 := [xj, xj, xj, xj, xj, xj, xj, xj, xj, .long (Int64.ofInt (q0 : Nat)), xj, xj, xj]) ⟨Or.inl rfl, Or.inl rfl, Or.inl rfl, Or.inl rfl, Or.inl rfl, Or.inl rfl, Or.inl rfl, Or.inl rfl, Or.inl rfl, Or.inr rfl, Or.inl rfl, Or.inl rfl, Or.inl rfl, trivial⟩ ?_
      refine RW.sk [.int (lg_cmp (Int64.ofInt ((q0 * second : Nat) : Int)) (Int64.ofInt ((over * 2 ^ 31 + third : Nat) : Int)))] rfl ?_
      refine RW.ifc (fun h2 => ?_) (fun h2 => ?_)
      · rw [lcmp_le (by omega) (by omega)] at h2
        rw [hV, if_pos (by generalize q0 * top = t at hover ⊢; generalize q0 * second = t2 at hq2 h2 ⊢; omega)]
        refine RW.ps 1 rfl ?_
        exact RW.re rfl rfl ⟨rfl, rfl⟩
      · rw [lcmp_le (by omega) (by omega)] at h2
        have hq1 : q0 ≠ 0 := by intro z; rw [z, Nat.zero_mul] at h2; omega
        rw [hV, if_neg (by generalize q0 * top = t at hover ⊢; generalize q0 * second = t2 at hq2 h2 ⊢; omega)]
        refine RW.ps 5 rfl ?_
        refine RW.re rfl rfl ⟨?_, rfl⟩
        rw [show (1 : Int64) = Int64.ofInt 1 by decide, li_sub, show (q0 : Int) - 1 = ((q0 - 1 : Nat) : Int) by omega]
  · exact absurd ((lcmp_ne (a := dg S n) (b := 0) (by omega) (by decide)).mpr (by omega)) h1
