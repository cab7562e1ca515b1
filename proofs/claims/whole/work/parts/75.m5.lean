/-! THE REFERENCE: multiply. -/
def Dg (o : xO) (a n T : Nat) : Prop := ∀ k, k < n → xi o a (k + 1) = Int32.ofInt (d16 T k : Nat)
theorem Dg.put {o : xO} {a n T T2 k v : Nat} (h : Dg o a n T) (h1 : ∀ j, j < n → j ≠ k → d16 T2 j = d16 T j) (h2 : d16 T2 k = v) : Dg (xpi o a (k + 1) (Int32.ofInt (v : Nat))) a n T2 := fun j hj => by
  by_cases hjk : j = k
  · subst hjk; rw [xpi_same, h2]
  · rw [xpi_ne (fun _ => by omega), h1 j hj hjk]; exact h j hj
theorem Dg.up1 {o : xO} {a n k S x : Nat} (h : Dg o a n (mv S x k)) : Dg (xpi o a (k + 1) (Int32.ofInt (d16 S k : Nat))) a n (mv S x (k + 1)) := by
  refine h.put (fun j _ hjk => ?_) (mv_lo (by omega))
  rw [mv_d, mv_d]
  by_cases h : j < k
  · rw [if_pos h, if_pos (by omega)]
  · rw [if_neg h, if_neg (by omega)]
theorem mul_dig (x y i j : Nat) : ((x % 65536 ^ i * y % 65536 ^ (i + j) + d16 x i * (y % 65536 ^ j) * 65536 ^ i) / 65536 ^ (i + j) + (d16 (x % 65536 ^ i * y) (i + j) + d16 x i * d16 y j)) % 65536 = d16 (x % 65536 ^ (i + 1) * y) (i + j) ∧
    ((x % 65536 ^ i * y % 65536 ^ (i + j) + d16 x i * (y % 65536 ^ j) * 65536 ^ i) / 65536 ^ (i + j) + (d16 (x % 65536 ^ i * y) (i + j) + d16 x i * d16 y j)) / 65536 = (x % 65536 ^ i * y % 65536 ^ (i + (j + 1)) + d16 x i * (y % 65536 ^ (j + 1)) * 65536 ^ i) / 65536 ^ (i + (j + 1)) := by
  rw [prod_step16]
  generalize x % 65536 ^ i * y = T
  generalize d16 x i = d
  refine carry_nat16 (k := i + j) (Z := T + d * y * 65536 ^ i) (T' := T % 65536 ^ (i + (j + 1)) + d * (y % 65536 ^ (j + 1)) * 65536 ^ i) ?_ ⟨T / 65536 ^ (i + (j + 1)) + d * (y / 65536 ^ (j + 1)), ?_⟩
  · rw [← Nat.add_assoc i j 1, d16_step T, d16_step y, Nat.pow_add 65536 i j]
    generalize 65536 ^ i = P
    generalize 65536 ^ j = Q
    grind
  · have e1 := Nat.mod_add_div T (65536 ^ (i + (j + 1)))
    have e2 := Nat.mod_add_div y (65536 ^ (j + 1))
    conv => lhs; rw [← e1, ← e2]
    rw [← Nat.add_assoc i j 1] at *
    rw [show 65536 ^ (i + j + 1) = 65536 ^ i * 65536 ^ (j + 1) by rw [← Nat.pow_add]; rfl]
    generalize 65536 ^ i = P
    generalize 65536 ^ (j + 1) = Q
    grind
theorem mul_c (x y i j : Nat) : (x % 65536 ^ i * y % 65536 ^ (i + j) + d16 x i * (y % 65536 ^ j) * 65536 ^ i) / 65536 ^ (i + j) < 65536 := by
  have hP := pow16_pos i
  have hQ := pow16_pos j
  have h1 := Nat.mod_lt (x % 65536 ^ i * y) (pow16_pos (i + j))
  have h2 := Nat.mod_lt y hQ
  have h3 := d16_lt x i
  rw [Nat.div_lt_iff_lt_mul (pow16_pos (i + j))]
  generalize x % 65536 ^ i * y % 65536 ^ (i + j) = u at *
  generalize y % 65536 ^ j = v at *
  generalize d16 x i = d at *
  rw [Nat.pow_add] at *
  generalize 65536 ^ i = P at *
  generalize 65536 ^ j = Q at *
  have h4 : d * v ≤ 65535 * Q := Nat.mul_le_mul (by omega) (by omega)
  have h5 : d * v * P ≤ 65535 * Q * P := Nat.mul_le_mul_right P h4
  rw [show 65535 * Q * P = 65535 * (P * Q) by ac_rfl] at h5
  omega
section M5
variable {o : xO} {Y a b L Lb n m x y : Nat}
theorem c_mmul (hB : MB o Y) (ha : Mn o a L x) (hb : Mn o b Lb y) (hL : L ≤ 9000) (hLb : Lb ≤ 9000) (haY : a ≠ Y + 8) (hbY : b ≠ Y + 8) (hn : n16 x + n16 y < 2400) : Cv y_M_multiply [.ref Y, .ref a, .ref b] o (fun o' => Fr [(Y + 8, 1)] o o' ∧ Mn o' (Y + 8) 2400 (x * y)) := by
  have haL := ha.2.1
  have hbL := hb.2.1
  have oY : Out [(Y + 8, 1)] Y := Out.one (by omega)
  have oa : Out [(Y + 8, 1)] a := Out.one (by omega)
  have ob : Out [(Y + 8, 1)] b := Out.one (by omega)
  have kY : ∀ w, Fr [(Y + 8, 1)] o w → xk w Y = (3, 9) := fun w hf => hf.k.trans hB.1
  have pY : ∀ w, Fr [(Y + 8, 1)] o w → xf w Y 8 = .ref (Y + 8) := fun w hf => (hf.f oY 8).trans hB.2.1.2.2.2.2.2.2.2.1
  have kP : ∀ w, Fr [(Y + 8, 1)] o w → xk w (Y + 8) = (1, 2400) := fun w hf => hf.k.trans hB.2.2.2.2.2.2.2.2.2.1
  have ka : ∀ w, Fr [(Y + 8, 1)] o w → xk w a = (1, L) := fun w hf => hf.k.trans ha.1
  have kb : ∀ w, Fr [(Y + 8, 1)] o w → xk w b = (1, Lb) := fun w hf => hf.k.trans hb.1
  have a0 : ∀ w, Fr [(Y + 8, 1)] o w → xi w a 0 = Int32.ofInt (n16 x : Nat) := fun w hf => by rw [hf.i oa]; exact ha.2.2.2.1
  have b0 : ∀ w, Fr [(Y + 8, 1)] o w → xi w b 0 = Int32.ofInt (n16 y : Nat) := fun w hf => by rw [hf.i ob]; exact hb.2.2.2.1
  have ak : ∀ w, Fr [(Y + 8, 1)] o w → ∀ k, k < n16 x → xi w a (k + 1) = Int32.ofInt (d16 x k : Nat) := fun w hf k hk => by rw [hf.i oa]; exact ha.2.2.2.2 k hk
  have bk : ∀ w, Fr [(Y + 8, 1)] o w → ∀ k, k < n16 y → xi w b (k + 1) = Int32.ofInt (d16 y k : Nat) := fun w hf k hk => by rw [hf.i ob]; exact hb.2.2.2.2 k hk
  have inner : ∀ i (iw : Int32), i < n16 x → iw.toInt = ((i + 1 : Nat) : Int) → (∀ w, Fr [(Y + 8, 1)] o w → Dg w (Y + 8) (n16 x + n16 y) (x % 65536 ^ (i + 1) * y) → RW (fun r o' => r = .inl none ∧ (Fr [(Y + 8, 1)] o o' ∧ Mn o' (Y + 8) 2400 (x * y))) y_M_multiply (xbk y_M_multiply 34) [.ref Y, .ref a, .ref b, .int (Int32.ofInt ((n16 x + n16 y : Nat) : Int)), .int (iw + 1), xj, xj, xj, xj, xj] [] w) →
      ∀ q j (jw : Int32) w, j + q = n16 y → jw.toInt = ((j + 1 : Nat) : Int) → Fr [(Y + 8, 1)] o w → Dg w (Y + 8) (n16 x + n16 y) (mv (x % 65536 ^ (i + 1) * y) (x % 65536 ^ i * y) (i + j)) →
      RW (fun r o' => r = .inl none ∧ (Fr [(Y + 8, 1)] o o' ∧ Mn o' (Y + 8) 2400 (x * y))) y_M_multiply (xbk y_M_multiply 48) [.ref Y, .ref a, .ref b, .int (Int32.ofInt ((n16 x + n16 y : Nat) : Int)), .int iw, .long (Int64.ofInt (((x % 65536 ^ i * y % 65536 ^ (i + j) + d16 x i * (y % 65536 ^ j) * 65536 ^ i) / 65536 ^ (i + j) : Nat) : Int)), xj, .int jw, xj, xj] [] w := by
    intro i iw hix hiw hnext q
    induction q with
    | zero =>
      intro j jw w hj hjw hf hD
      have hjy : j = n16 y := by omega
      subst hjy
      have hy := hb.2.2.1
      refine RW.ps 3 rfl ?_
      refine RW.ia (kb w hf) i0n (by omega) ?_
      rw [b0 w hf]
      refine RW.icm (fun _ => ?_) (fun k => ?_)
      rotate_left
      · rw [xi_gt, iu (by omega), hjw] at k; omega
      have hS : x % 65536 ^ (i + 1) * y < 65536 ^ (i + n16 y + 1) := by
        have h1 := Nat.mod_lt x (pow16_pos (i + 1))
        have h2 := Nat.mul_lt_mul'' h1 hy
        rw [← Nat.pow_add, show i + 1 + n16 y = i + n16 y + 1 by omega] at h2
        exact h2
      have hT : x % 65536 ^ i * y < 65536 ^ (i + n16 y) := by
        have h1 := Nat.mod_lt x (pow16_pos i)
        have h2 := Nat.mul_lt_mul'' h1 hy
        rw [← Nat.pow_add] at h2
        exact h2
      have hc : (x % 65536 ^ i * y % 65536 ^ (i + n16 y) + d16 x i * (y % 65536 ^ n16 y) * 65536 ^ i) / 65536 ^ (i + n16 y) = d16 (x % 65536 ^ (i + 1) * y) (i + n16 y) := by
        rw [Nat.mod_eq_of_lt hT, Nat.mod_eq_of_lt hy, ← prod_step16]
        unfold d16
        exact (Nat.mod_eq_of_lt (by rw [Nat.div_lt_iff_lt_mul (pow16_pos _), Nat.mul_comm 65536, ← Nat.pow_succ]; exact hS)).symm
      rw [hc]
      refine RW.ps 1 rfl ?_
      refine RW.gf (kY w hf) (pY w hf) ?_
      refine RW.ps 3 rfl ?_
      refine RW.ia (kb w hf) i0n (by omega) ?_
      rw [b0 w hf]
      refine RW.ps 3 rfl ?_
      refine RW.top (congrArg Value.int (ii_toInt32 _)) ?_
      refine RW.ist (kP w hf) (k := i + n16 y + 1) (by rw [i_add hiw (iu (u := n16 y) (by omega)) (by omega)]; omega) (by omega) ?_
      have hD2 := hD.up1
      refine RW.ps 1 rfl ?_
      refine RW.go ?_
      refine RW.weak (lv0 := [.ref Y, .ref a, .ref b, .int (Int32.ofInt ((n16 x + n16 y : Nat) : Int)), .int (iw + 1), xj, xj, xj, xj, xj]) ⟨Or.inr rfl, Or.inr rfl, Or.inr rfl, Or.inr rfl, Or.inr rfl, Or.inl rfl, Or.inl rfl, Or.inl rfl, Or.inl rfl, Or.inl rfl, trivial⟩ ?_
      refine RW.sk [] rfl ?_
      refine hnext _ hf.pi1 ?_
      have e : mv (x % 65536 ^ (i + 1) * y) (x % 65536 ^ i * y) (i + n16 y + 1) = x % 65536 ^ (i + 1) * y := by
        rw [mv_all (Nat.lt_trans hT (Nat.pow_lt_pow_right (by decide) (by omega))), Nat.mod_eq_of_lt hS]
      rw [e] at hD2
      exact hD2
    | succ q ih =>
      intro j jw w hj hjw hf hD
      have dx := d16_lt x i
      have dy := d16_lt y j
      have dT := d16_lt (x % 65536 ^ i * y) (i + j)
      have hc := mul_c x y i j
      obtain ⟨s1, s2⟩ := mul_dig x y i j
      have hprod : d16 x i * d16 y j ≤ 65535 * 65535 := Nat.mul_le_mul (by omega) (by omega)
      have hDk := hD (i + j) (by omega)
      rw [mv_hi (Nat.le_refl _)] at hDk
      have hD2 := hD.up1
      generalize (x % 65536 ^ i * y % 65536 ^ (i + j) + d16 x i * (y % 65536 ^ j) * 65536 ^ i) / 65536 ^ (i + j) = c at *
      have hidx : (iw + jw - 1).toInt = ((i + j + 1 : Nat) : Int) := by
        rw [i_of hiw, i_of hjw, show (1 : Int32) = Int32.ofInt 1 by decide, ii_add, ii_sub, ii_toInt (by omega) (by omega)]; omega
      refine RW.ps 3 rfl ?_
      refine RW.ia (kb w hf) i0n (by omega) ?_
      rw [b0 w hf]
      refine RW.icm (fun k => ?_) (fun _ => ?_)
      · rw [xi_gt, iu (by omega), hjw] at k; omega
      refine RW.ps 2 rfl ?_
      refine RW.ia (ka w hf) hiw (by omega) ?_
      rw [ak w hf i hix]
      refine RW.ps 3 rfl ?_
      refine RW.ia (kb w hf) hjw (by omega) ?_
      rw [bk w hf j (by omega)]
      refine RW.ps 3 rfl ?_
      refine RW.gf (kY w hf) (pY w hf) ?_
      refine RW.ps 5 rfl ?_
      refine RW.ia (kP w hf) hidx (by omega) ?_
      rw [hDk]
      refine RW.ps 4 rfl ?_
      refine RW.top (congrArg Value.long ((show (Int32.ofInt (d16 x i : Nat)).toInt64 * (Int32.ofInt (d16 y j : Nat)).toInt64 + (Int32.ofInt (d16 (x % 65536 ^ i * y) (i + j) : Nat)).toInt64 + Int64.ofInt (c : Nat) = Int64.ofInt ((c + (d16 (x % 65536 ^ i * y) (i + j) + d16 x i * d16 y j) : Nat) : Int) by rw [ii_l (by omega) (by omega), ii_l (by omega) (by omega), ii_l (by omega) (by omega), li_mul, li_add, li_add, ← Int.natCast_mul, ← Int.natCast_add, ← Int.natCast_add]; congr 2; omega))) ?_
      generalize hv : c + (d16 (x % 65536 ^ i * y) (i + j) + d16 x i * d16 y j) = v at *
      refine RW.ps 2 rfl ?_
      refine RW.weak (lv0 := [.ref Y, .ref a, .ref b, .int (Int32.ofInt ((n16 x + n16 y : Nat) : Int)), .int iw, xj, xj, .int jw, .long (Int64.ofInt (v : Nat)), xj]) ⟨Or.inr rfl, Or.inr rfl, Or.inr rfl, Or.inr rfl, Or.inr rfl, Or.inl rfl, Or.inl rfl, Or.inr rfl, Or.inr rfl, Or.inl rfl, trivial⟩ ?_
      refine RW.sk [.ref Y] rfl ?_
      refine RW.gf (kY w hf) (pY w hf) ?_
      refine RW.ps 9 rfl ?_
      refine RW.top (congrArg Value.int ((show (Int64.ofInt (v : Nat) &&& 65535).toInt32 = Int32.ofInt (d16 (x % 65536 ^ (i + 1) * y) (i + j) : Nat) by rw [li_low16, ← s1]; rfl))) ?_
      refine RW.ist (kP w hf) hidx (by omega) ?_
      refine RW.ps 5 rfl ?_
      refine RW.go ?_
      refine RW.weak (lv0 := [.ref Y, .ref a, .ref b, .int (Int32.ofInt ((n16 x + n16 y : Nat) : Int)), .int iw, .long (Int64.ofInt ((v / 65536 : Nat) : Int)), xj, .int (jw + 1), xj, xj]) ⟨Or.inr rfl, Or.inr rfl, Or.inr rfl, Or.inr rfl, Or.inr rfl, Or.inr (congrArg Value.long (n_shr (k := 16) (y := 16) rfl (by decide) (by omega)).symm), Or.inl rfl, Or.inr rfl, Or.inl rfl, Or.inl rfl, trivial⟩ ?_
      refine RW.sk [] rfl ?_
      rw [s2]
      exact ih (j + 1) (jw + 1) _ (by omega) (i_succ hjw (by omega)) hf.pi1 hD2
  have outer : ∀ q i (iw : Int32) w, i + q = n16 x → iw.toInt = ((i + 1 : Nat) : Int) → Fr [(Y + 8, 1)] o w → Dg w (Y + 8) (n16 x + n16 y) (x % 65536 ^ i * y) → RW (fun r o' => r = .inl none ∧ (Fr [(Y + 8, 1)] o o' ∧ Mn o' (Y + 8) 2400 (x * y))) y_M_multiply (xbk y_M_multiply 34) [.ref Y, .ref a, .ref b, .int (Int32.ofInt ((n16 x + n16 y : Nat) : Int)), .int iw, xj, xj, xj, xj, xj] [] w := by
    intro q
    induction q with
    | zero =>
      intro i iw w hi hiw hf hD
      have hix : i = n16 x := by omega
      subst hix
      rw [Nat.mod_eq_of_lt ha.2.2.1] at hD
      refine RW.ps 3 rfl ?_
      refine RW.ia (ka w hf) i0n (by omega) ?_
      rw [a0 w hf]
      refine RW.icm (fun _ => ?_) (fun k => ?_)
      rotate_left
      · rw [xi_gt, iu (by omega), hiw] at k; omega
      refine RW.ps 1 rfl ?_
      refine RW.gf (kY w hf) (pY w hf) ?_
      refine RW.ps 2 rfl ?_
      refine RW.ist (kP w hf) i0n (by omega) ?_
      have hm : Mu (xpi w (Y + 8) 0 (Int32.ofInt ((n16 x + n16 y : Nat) : Int))) (Y + 8) 2400 (n16 x + n16 y) (x * y) := ⟨kP w hf, by omega, by rw [Nat.pow_add]; exact Nat.mul_lt_mul'' ha.2.2.1 hb.2.2.1, xpi_same, fun k hk => (xpi_ne (fun _ => by omega)).trans (hD k hk)⟩
      refine RW.ps 1 rfl ?_
      refine RW.gf (kY _ hf.pi1) (pY _ hf.pi1) ?_
      refine RW.cv rfl rfl rfl rfl rfl (c_cutn hm (by decide)) ?_
      intro o2 ⟨f2, r2⟩
      exact RW.re rfl rfl ⟨rfl, hf.pi1.trans f2, r2⟩
    | succ q ih =>
      intro i iw w hi hiw hf hD
      refine RW.ps 3 rfl ?_
      refine RW.ia (ka w hf) i0n (by omega) ?_
      rw [a0 w hf]
      refine RW.icm (fun k => ?_) (fun _ => ?_)
      · rw [xi_gt, iu (by omega), hiw] at k; omega
      refine RW.ps 4 rfl ?_
      refine RW.weak (lv0 := [.ref Y, .ref a, .ref b, .int (Int32.ofInt ((n16 x + n16 y : Nat) : Int)), .int iw, .long 0, xj, .int 1, xj, xj]) ⟨Or.inr rfl, Or.inr rfl, Or.inr rfl, Or.inr rfl, Or.inr rfl, Or.inr rfl, Or.inl rfl, Or.inr rfl, Or.inl rfl, Or.inl rfl, trivial⟩ ?_
      refine RW.sk [] rfl ?_
      have h0 := inner i iw (by omega) hiw (fun w' hf' hD' => ih (i + 1) (iw + 1) w' (by omega) (i_succ hiw (by omega)) hf' hD') (n16 y) 0 1 w (Nat.zero_add _) rfl hf
      have e0 : (x % 65536 ^ i * y % 65536 ^ (i + 0) + d16 x i * (y % 65536 ^ 0) * 65536 ^ i) / 65536 ^ (i + 0) = 0 := by
        rw [Nat.pow_zero, Nat.mod_one, Nat.mul_zero, Nat.zero_mul]
        exact Nat.div_eq_of_lt (Nat.mod_lt _ (pow16_pos i))
      rw [e0] at h0
      refine h0 ?_
      intro k hk
      rw [hD k hk, mv_d, Nat.add_zero]
      by_cases hki : k < i
      · rw [if_pos hki]
        apply congrArg (fun q : Nat => Int32.ofInt (q : Int))
        have h1 := prod_step16 (x := x) (y := y) (i := i)
        rw [h1]
        have h2 := mv_lo (S := x % 65536 ^ i * y) (x := x % 65536 ^ i * y + d16 x i * y * 65536 ^ i) hki
        unfold mv at h2
        rw [Nat.add_mul_div_right _ _ (pow16_pos i), Nat.add_mul, ← Nat.add_assoc, Nat.mul_comm (x % 65536 ^ i * y / 65536 ^ i), Nat.mod_add_div] at h2
        exact h2.symm
      · rw [if_neg hki]
  have zeros : ∀ q k (kw : Int32) w, k + q = n16 x + n16 y + 1 → kw.toInt = (k : Int) → Fr [(Y + 8, 1)] o w → (∀ j, j < k → xi w (Y + 8) j = 0) → RW (fun r o' => r = .inl none ∧ (Fr [(Y + 8, 1)] o o' ∧ Mn o' (Y + 8) 2400 (x * y))) y_M_multiply (xbk y_M_multiply 11) [.ref Y, .ref a, .ref b, .int (Int32.ofInt ((n16 x + n16 y : Nat) : Int)), .int kw, xj, xj, xj, xj, xj] [] w := by
    intro q
    induction q with
    | zero =>
      intro k kw w hk hkw hf hz
      refine RW.ps 2 rfl ?_
      refine RW.icm (fun _ => ?_) (fun k2 => ?_)
      rotate_left
      · rw [xi_gt, iu (by omega), hkw] at k2; omega
      refine RW.ps 2 rfl ?_
      refine RW.weak (lv0 := [.ref Y, .ref a, .ref b, .int (Int32.ofInt ((n16 x + n16 y : Nat) : Int)), .int 1, xj, xj, xj, xj, xj]) ⟨Or.inr rfl, Or.inr rfl, Or.inr rfl, Or.inr rfl, Or.inr rfl, Or.inl rfl, Or.inl rfl, Or.inl rfl, Or.inl rfl, Or.inl rfl, trivial⟩ ?_
      refine RW.sk [] rfl ?_
      refine outer (n16 x) 0 1 w (Nat.zero_add _) rfl hf ?_
      intro j hj
      rw [hz (j + 1) (by omega), Nat.pow_zero, Nat.mod_one, Nat.zero_mul]
      unfold d16
      rw [Nat.zero_div]; rfl
    | succ q ih =>
      intro k kw w hk hkw hf hz
      refine RW.ps 2 rfl ?_
      refine RW.icm (fun k2 => ?_) (fun _ => ?_)
      · rw [xi_gt, iu (by omega), hkw] at k2; omega
      refine RW.ps 1 rfl ?_
      refine RW.gf (kY w hf) (pY w hf) ?_
      refine RW.ps 2 rfl ?_
      refine RW.ist (k := k) (kP w hf) hkw (by omega) ?_
      refine RW.ps 1 rfl ?_
      refine RW.go ?_
      refine ih (k + 1) (kw + 1) _ (by omega) (i_succ hkw (by omega)) hf.pi1 (fun j hj => ?_)
      by_cases hjk : j = k
      · subst hjk; exact xpi_same
      · rw [xpi_ne (fun _ => hjk)]; exact hz j (by omega)
  refine RW.ps 2 rfl ?_
  refine RW.ia ha.1 i0n (by omega) ?_
  rw [ha.2.2.2.1]
  refine RW.ps 2 rfl ?_
  refine RW.ia hb.1 i0n (by omega) ?_
  rw [hb.2.2.2.1]
  refine RW.ps 4 rfl ?_
  refine RW.weak (lv0 := [.ref Y, .ref a, .ref b, .int (Int32.ofInt ((n16 x + n16 y : Nat) : Int)), .int 0, xj, xj, xj, xj, xj]) ⟨Or.inr rfl, Or.inr rfl, Or.inr rfl, Or.inr (congrArg Value.int (by rw [ii_add]; rfl)), Or.inr rfl, Or.inl rfl, Or.inl rfl, Or.inl rfl, Or.inl rfl, Or.inl rfl, trivial⟩ ?_
  refine RW.sk [] rfl ?_
  exact zeros _ 0 0 o (Nat.zero_add _) rfl (Fr.refl _ _) (fun j hj => absurd hj (Nat.not_lt_zero j))
end M5
