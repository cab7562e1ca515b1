/-! THE REFERENCE: digit. -/
theorem li_shr16 {z : Int} (h1 : -9223372036854775808 ≤ z) (h2 : z < 9223372036854775808) : Int64.ofInt z >>> ((16 : Int32).toInt64 &&& 63) = Int64.ofInt (z / 65536) := by
  apply Int64.toInt_inj.mp
  have e0 : ((((16 : Int32).toInt64 &&& 63).toBitVec).smod 64).toNat = 16 := by decide +kernel
  have e : (Int64.ofInt z >>> ((16 : Int32).toInt64 &&& 63)).toInt = (Int64.ofInt z).toInt >>> 16 := by
    rw [← e0]
    exact BitVec.toInt_sshiftRight ..
  rw [e, Int.shiftRight_eq_div_pow, Int64.toInt_ofInt_of_le (by omega) (by omega), Int64.toInt_ofInt_of_le (by omega) (by omega)]
  rfl
theorem l_neg (z : Int) : -Int64.ofInt z = Int64.ofInt (-z) := (Int64.ofInt_neg z).symm
/-- the window of R from part k on is Z -/
def wi (R k Z : Nat) : Nat := R % 65536 ^ k + Z * 65536 ^ k
theorem wi_hi (R k Z j : Nat) : d16 (wi R k Z) (k + j) = d16 Z j := by
  unfold d16 wi
  rw [Nat.pow_add, ← Nat.div_div_eq_div_mul, Nat.add_mul_div_right _ _ (pow16_pos k), Nat.div_eq_of_lt (Nat.mod_lt _ (pow16_pos k)), Nat.zero_add]
theorem wi_lo {R k Z i : Nat} (h : i < k) : d16 (wi R k Z) i = d16 R i := by
  have h2 := mv_lo (S := R) (x := wi R k Z) h
  have h3 : mv R (wi R k Z) k = wi R k Z := by
    unfold mv wi
    rw [Nat.add_mul_div_right _ _ (pow16_pos k), Nat.div_eq_of_lt (Nat.mod_lt _ (pow16_pos k)), Nat.zero_add]
  rw [h3] at h2
  exact h2
theorem wi_self (R k : Nat) : wi R k (R / 65536 ^ k) = R := by unfold wi; rw [Nat.mul_comm]; exact Nat.mod_add_div _ _
theorem wi_lt {R k Z m : Nat} (h : Z < 65536 ^ m) : wi R k Z < 65536 ^ (k + m) := by
  unfold wi
  have h1 := Nat.mod_lt R (pow16_pos k)
  have h2 : (Z + 1) * 65536 ^ k ≤ 65536 ^ m * 65536 ^ k := Nat.mul_le_mul_right _ h
  rw [← Nat.pow_add, Nat.add_mul, Nat.one_mul, Nat.add_comm m k] at h2
  omega
theorem wi_wi (R k Z Z2 : Nat) : wi (wi R k Z) k Z2 = wi R k Z2 := by unfold wi; rw [Nat.add_mul_mod_self_right, Nat.mod_mod]
theorem d16_wi (R k j : Nat) : d16 (R / 65536 ^ k) j = d16 R (k + j) := by unfold d16; rw [Nat.div_div_eq_div_mul, ← Nat.pow_add]
/-- subtracting g times D from a window W, part by part; Z is what stands there then -/
theorem sub_dig {W D g j n : Nat} {m0 : Int} {Z : Nat} (hZ : (Z : Int) = (W : Int) - (g : Int) * (D : Int) + m0 * (65536 : Int) ^ (n + 1)) (hj : j ≤ n) :
    ((((W % 65536 ^ j : Nat) : Int) - (g : Int) * ((D % 65536 ^ j : Nat) : Int)) / (65536 : Int) ^ j + ((d16 W j : Int) - (g : Int) * (d16 D j : Int))) % 65536 = (d16 Z j : Int) ∧
    ((((W % 65536 ^ j : Nat) : Int) - (g : Int) * ((D % 65536 ^ j : Nat) : Int)) / (65536 : Int) ^ j + ((d16 W j : Int) - (g : Int) * (d16 D j : Int))) / 65536 = (((W % 65536 ^ (j + 1) : Nat) : Int) - (g : Int) * ((D % 65536 ^ (j + 1) : Nat) : Int)) / (65536 : Int) ^ (j + 1) := by
  obtain ⟨e, rfl⟩ : ∃ e, n = j + e := ⟨n - j, by omega⟩
  refine carry_int16 (Z := Z) (m := ((W / 65536 ^ (j + 1) : Nat) : Int) - (g : Int) * ((D / 65536 ^ (j + 1) : Nat) : Int) + m0 * (65536 : Int) ^ e) ?_ ?_
  · rw [d16_step, d16_step, Int.natCast_add, Int.natCast_add, Int.natCast_mul, Int.natCast_mul, pow_int16]; grind
  · have e1 : (W : Int) = ((W % 65536 ^ (j + 1) : Nat) : Int) + ((W / 65536 ^ (j + 1) : Nat) : Int) * (65536 : Int) ^ (j + 1) := by
      rw [← pow_int16, ← Int.natCast_mul, ← Int.natCast_add]; congr 1
      rw [Nat.mul_comm]; exact (Nat.mod_add_div _ _).symm
    have e2 : (D : Int) = ((D % 65536 ^ (j + 1) : Nat) : Int) + ((D / 65536 ^ (j + 1) : Nat) : Int) * (65536 : Int) ^ (j + 1) := by
      rw [← pow_int16, ← Int.natCast_mul, ← Int.natCast_add]; congr 1
      rw [Nat.mul_comm]; exact (Nat.mod_add_div _ _).symm
    have e3 : (65536 : Int) ^ (j + e + 1) = (65536 : Int) ^ (j + 1) * (65536 : Int) ^ e := by rw [← Int.pow_add]; congr 1; omega
    rw [hZ, e3]
    conv => lhs; rw [e1, e2]
    generalize ((W % 65536 ^ (j + 1) : Nat) : Int) = w1
    generalize ((W / 65536 ^ (j + 1) : Nat) : Int) = w2
    generalize ((D % 65536 ^ (j + 1) : Nat) : Int) = d1
    generalize ((D / 65536 ^ (j + 1) : Nat) : Int) = d2
    generalize (65536 : Int) ^ (j + 1) = P
    generalize (65536 : Int) ^ e = Q
    grind
theorem sub_bo {W D g : Nat} (hg : g ≤ 65535) (j : Nat) : -65535 ≤ (((W % 65536 ^ j : Nat) : Int) - (g : Int) * ((D % 65536 ^ j : Nat) : Int)) / (65536 : Int) ^ j ∧ (((W % 65536 ^ j : Nat) : Int) - (g : Int) * ((D % 65536 ^ j : Nat) : Int)) / (65536 : Int) ^ j ≤ 0 := by
  have h := pow16_pos j
  have h1 := Nat.mod_lt W h
  have h2 := Nat.mod_lt D h
  rw [← pow_int16]
  generalize W % 65536 ^ j = u at *
  generalize D % 65536 ^ j = v at *
  generalize 65536 ^ j = P at *
  have h3 : g * v ≤ 65535 * v := Nat.mul_le_mul_right v hg
  have h4 : (g : Int) * (v : Int) = ((g * v : Nat) : Int) := (Int.natCast_mul g v).symm
  rw [h4]
  constructor
  · exact Int.le_ediv_of_mul_le (by omega) (by omega)
  · exact Int.le_of_lt_add_one (Int.ediv_lt_of_lt_mul (by omega) (by omega))
/-- adding D to a window -/
theorem put_dig {U : Int} {Z Z2 D j n : Nat} {m0 m1 : Int} (hZ : (Z : Int) = U + m0 * (65536 : Int) ^ (n + 1)) (hZ2 : (Z2 : Int) = U + (D : Int) + m1 * (65536 : Int) ^ (n + 1)) (hj : j ≤ n) :
    (((Z % 65536 ^ j + D % 65536 ^ j) / 65536 ^ j) + (d16 Z j + d16 D j)) % 65536 = d16 Z2 j ∧ (((Z % 65536 ^ j + D % 65536 ^ j) / 65536 ^ j) + (d16 Z j + d16 D j)) / 65536 = (Z % 65536 ^ (j + 1) + D % 65536 ^ (j + 1)) / 65536 ^ (j + 1) := by
  obtain ⟨s1, s2⟩ := add_dig Z D j
  refine ⟨s1.trans ?_, s2⟩
  have h : ((Z + D : Nat) : Int) % (65536 : Int) ^ (n + 1) = (Z2 : Int) % (65536 : Int) ^ (n + 1) := by
    rw [Int.natCast_add, hZ, hZ2, Int.add_right_comm, Int.add_mul_emod_self_right, Int.add_mul_emod_self_right]
  rw [← pow_int16] at h
  have h2 : (Z + D) % 65536 ^ (n + 1) = Z2 % 65536 ^ (n + 1) := by
    have := Int.ofNat.inj h
    exact this
  have h3 : ∀ y, d16 y j = d16 (y % 65536 ^ (n + 1)) j := fun y => (d16_mod (by omega)).symm
  rw [h3, h3 Z2, h2]
theorem top_dig {U m0 : Int} {Z n : Nat} (hZ : (Z : Int) = U + m0 * (65536 : Int) ^ (n + 1 + 1)) : U / (65536 : Int) ^ (n + 1) % 65536 = (d16 Z (n + 1) : Int) ∧ U % (65536 : Int) ^ (n + 1) = ((Z % 65536 ^ (n + 1) : Nat) : Int) := by
  have hP : (0 : Int) < (65536 : Int) ^ (n + 1) := Int.pow_pos (by decide)
  have hU : U = (Z : Int) + (-m0 * 65536) * (65536 : Int) ^ (n + 1) := by
    rw [hZ, Int.pow_succ (65536 : Int) (n + 1)]
    generalize (65536 : Int) ^ (n + 1) = P
    grind
  constructor
  · rw [hU, Int.add_mul_ediv_right _ _ (Int.ne_of_gt hP), Int.add_mul_emod_self_right, d16_int]
  · rw [hU, Int.add_mul_emod_self_right, mod_int16]
theorem Mu.wi {o : xO} {a L N R k A B j : Nat} (h : Mu o a L N (wi R k A)) (hj : k + j < N) (hB : wi R k B < 65536 ^ N) (hd : ∀ i, i ≠ j → d16 B i = d16 A i) : Mu (xpi o a (k + j + 1) (Int32.ofInt (d16 B j : Nat))) a L N (wi R k B) := by
  refine h.put hj hB (fun i _ hi => ?_) (wi_hi R k B j)
  by_cases hik : i < k
  · rw [wi_lo hik, wi_lo hik]
  · obtain ⟨e, rfl⟩ : ∃ e, i = k + e := ⟨i - k, by omega⟩
    rw [wi_hi, wi_hi]; exact hd e (by omega)
theorem mv_step (S x j : Nat) : ∀ i, i ≠ j → d16 (mv S x (j + 1)) i = d16 (mv S x j) i := by
  intro i hi
  rw [mv_d, mv_d]
  by_cases h : i < j
  · rw [if_pos h, if_pos (by omega)]
  · rw [if_neg h, if_neg (by omega)]
section M6
variable {o : xO} {Y N R D n k : Nat}
theorem c_mdigit {kw : Int32} (hB : MB o Y) (hR : Mu o (Y + 10) 1200 N R) (hD : Mn o (Y + 11) 1200 D) (hn : n16 D = n + 1) (ht : 32768 ≤ d16 D n) (hk : kw.toInt = (k : Int)) (hkN : k + n + 1 < N) (hRD : R < D * 65536 ^ (k + 1)) :
    Cq y_M_digit [.ref Y, .int kw] o (fun v o' => v = .int (Int32.ofInt ((R / (D * 65536 ^ k) : Nat) : Int)) ∧ Fr [(Y + 10, 1)] o o' ∧ Mu o' (Y + 10) 1200 N (R % (D * 65536 ^ k))) := by
  have hN := hR.2.1
  have hDl := hD.2.2.1
  have hDL := hD.2.1
  rw [hn] at hDl hDL
  have hD0 : 0 < D := by
    rcases Nat.eq_zero_or_pos D with h | h
    · rw [h] at hn; rw [n16_zero.mpr rfl] at hn; omega
    · exact h
  have htl := d16_lt D n
  have oY : Out [(Y + 10, 1)] Y := Out.one (by omega)
  have oD : Out [(Y + 10, 1)] (Y + 11) := Out.one (by omega)
  have kY : ∀ w, Fr [(Y + 10, 1)] o w → xk w Y = (3, 9) := fun w hf => hf.k.trans hB.1
  have pR : ∀ w, Fr [(Y + 10, 1)] o w → xf w Y 10 = .ref (Y + 10) := fun w hf => (hf.f oY 10).trans hB.2.1.2.2.2.2.2.2.2.2.2.1
  have pD : ∀ w, Fr [(Y + 10, 1)] o w → xf w Y 11 = .ref (Y + 11) := fun w hf => (hf.f oY 11).trans hB.2.1.2.2.2.2.2.2.2.2.2.2.1
  have kD : ∀ w, Fr [(Y + 10, 1)] o w → xk w (Y + 11) = (1, 1200) := fun w hf => hf.k.trans hD.1
  have dD : ∀ w, Fr [(Y + 10, 1)] o w → ∀ j, j < n + 1 → xi w (Y + 11) (j + 1) = Int32.ofInt (d16 D j : Nat) := fun w hf j hj => by rw [hf.i oD]; exact hD.2.2.2.2 j (by rw [hn]; exact hj)
  -- the window
  generalize hW : R / 65536 ^ k = W
  have hWl : W < 65536 ^ (n + 2) := by
    rw [← hW, Nat.div_lt_iff_lt_mul (pow16_pos k), ← Nat.pow_add]
    refine Nat.lt_of_lt_of_le hRD ?_
    have h1 : D * 65536 ^ (k + 1) ≤ 65536 ^ (n + 1) * 65536 ^ (k + 1) := Nat.mul_le_mul_right _ (Nat.le_of_lt hDl)
    rw [← Nat.pow_add, show n + 1 + (k + 1) = n + 2 + k by omega] at h1
    exact h1
  have hWD : W < D * 65536 := by
    rw [← hW, Nat.div_lt_iff_lt_mul (pow16_pos k), Nat.mul_assoc, Nat.mul_comm 65536, ← Nat.pow_succ]; exact hRD
  have hqR : R / (D * 65536 ^ k) = W / D := by rw [← hW, Nat.div_div_eq_div_mul, Nat.mul_comm]
  have hq : W / D < 65536 := by rw [Nat.div_lt_iff_lt_mul hD0, Nat.mul_comm]; exact hWD
  have hRW : wi R k W = R := by rw [← hW]; exact wi_self R k
  have hmod : wi R k (W % D) = R % (D * 65536 ^ k) := by
    have h1 : W % D * 65536 ^ k + R % 65536 ^ k < D * 65536 ^ k := by
      have h2 := Nat.mod_lt W hD0
      have h3 := Nat.mod_lt R (pow16_pos k)
      have h4 : (W % D + 1) * 65536 ^ k ≤ D * 65536 ^ k := Nat.mul_le_mul_right _ h2
      rw [Nat.add_mul, Nat.one_mul] at h4
      omega
    have h5 : R = W / D * (D * 65536 ^ k) + (W % D * 65536 ^ k + R % 65536 ^ k) := by
      have h6 := Nat.mod_add_div R (65536 ^ k)
      have h7 := Nat.mod_add_div W D
      rw [hW] at h6
      conv => lhs; rw [← h6, ← h7]
      generalize 65536 ^ k = P
      generalize W / D = q
      generalize W % D = r
      grind
    unfold wi
    conv => rhs; rw [h5]
    rw [Nat.mul_comm (W / D), Nat.mul_add_mod, Nat.mod_eq_of_lt h1, Nat.add_comm]
  -- the end
  have hfin : ∀ (g : Nat) w lv, g = W / D → Fr [(Y + 10, 1)] o w → Mu w (Y + 10) 1200 N (wi R k (W % D)) → xld lv 5 = .long (Int64.ofInt (g : Nat)) → lv = [.ref Y, .int kw, .int (Int32.ofInt ((n + 1 : Nat) : Int)), xj, xj, .long (Int64.ofInt (g : Nat)), xj, xj, xj, xj, xj, xj, xj, xj] → RW (fun r o' => ∃ v, r = .inl (some v) ∧ (v = .int (Int32.ofInt ((R / (D * 65536 ^ k) : Nat) : Int)) ∧ Fr [(Y + 10, 1)] o o' ∧ Mu o' (Y + 10) 1200 N (R % (D * 65536 ^ k)))) y_M_digit (xbk y_M_digit 282) lv [] w := by
    intro g w lv hg hf hm _ hlv
    subst hlv
    refine RW.ps 2 rfl ?_
    refine RW.top (congrArg Value.int (ii_toInt32 _)) ?_
    rw [hmod] at hm
    rw [hg, ← hqR]
    exact RW.re rfl rfl ⟨_, rfl, rfl, hf, hm⟩
  -- what stands in the window, for W less g times D
  have hZx : ∀ g : Nat, g ≤ 65535 → ∃ (Z : Nat) (m0 : Int), (Z : Int) = (W : Int) - (g : Int) * (D : Int) + m0 * (65536 : Int) ^ (n + 1 + 1) ∧ Z < 65536 ^ (n + 2) := by
    intro g hg
    refine ⟨(((W : Int) - (g : Int) * (D : Int)) % (65536 : Int) ^ (n + 1 + 1)).toNat, -(((W : Int) - (g : Int) * (D : Int)) / (65536 : Int) ^ (n + 1 + 1)), ?_, ?_⟩
    · have hP : (0 : Int) < (65536 : Int) ^ (n + 1 + 1) := Int.pow_pos (by decide)
      have h1 := Int.emod_nonneg ((W : Int) - (g : Int) * (D : Int)) (Int.ne_of_gt hP)
      have h2 := Int.emod_add_mul_ediv ((W : Int) - (g : Int) * (D : Int)) ((65536 : Int) ^ (n + 1 + 1))
      rw [Int.toNat_of_nonneg h1, Int.neg_mul, Int.mul_comm (_ / _)]
      omega
    · have hP : (0 : Int) < (65536 : Int) ^ (n + 1 + 1) := Int.pow_pos (by decide)
      have h1 := Int.emod_lt_of_pos ((W : Int) - (g : Int) * (D : Int)) hP
      have h3 : ((65536 ^ (n + 2) : Nat) : Int) = (65536 : Int) ^ (n + 1 + 1) := pow_int16 (n + 2)
      omega
  have hkb : k < 1200 := by omega
  have wl : ∀ B, B < 65536 ^ (n + 2) → wi R k B < 65536 ^ N := fun B hBl => Nat.lt_of_lt_of_le (wi_lt hBl) (Nat.pow_le_pow_right (by decide) (by omega))
  have hP0 : (0 : Int) < (65536 : Int) ^ (n + 1) := Int.pow_pos (by decide)
  have hDP : (D : Int) < (65536 : Int) ^ (n + 1) := by rw [← pow_int16]; omega
  have hDm : D % 65536 ^ (n + 1) = D := Nat.mod_eq_of_lt hDl
  -- putting back until it is not below 0
  have back : ∀ e g w (Z : Nat) (m0 : Int), g = W / D + e → g ≤ 65535 → (Z : Int) = (W : Int) - (g : Int) * (D : Int) + m0 * (65536 : Int) ^ (n + 1 + 1) → Z < 65536 ^ (n + 2) → Fr [(Y + 10, 1)] o w → Mu w (Y + 10) 1200 N (wi R k Z) →
      RW (fun r o' => ∃ v, r = .inl (some v) ∧ (v = .int (Int32.ofInt ((R / (D * 65536 ^ k) : Nat) : Int)) ∧ Fr [(Y + 10, 1)] o o' ∧ Mu o' (Y + 10) 1200 N (R % (D * 65536 ^ k)))) y_M_digit (xbk y_M_digit 174) [.ref Y, .int kw, .int (Int32.ofInt ((n + 1 : Nat) : Int)), xj, xj, .long (Int64.ofInt (g : Nat)), xj, xj, xj, .long (Int64.ofInt (((W : Int) - (g : Int) * (D : Int)) / (65536 : Int) ^ (n + 1))), xj, xj, xj, xj] [] w := by
    intro e
    induction e with
    | zero =>
      intro g w Z m0 hg hg2 hZ hZl hf hm
      have hdm := Nat.div_add_mod W D
      have hlt := Nat.mod_lt W hD0
      have hU : (W : Int) - (g : Int) * (D : Int) = ((W % D : Nat) : Int) := by
        rw [← Int.natCast_mul, hg, Nat.add_zero, Nat.mul_comm]; omega
      rw [hU] at hZ ⊢
      have hZe : Z = W % D := by
        have h1 : ((65536 ^ (n + 2) : Nat) : Int) = (65536 : Int) ^ (n + 1 + 1) := pow_int16 (n + 2)
        have h2 : D < 65536 ^ (n + 2) := Nat.lt_trans hDl (Nat.pow_lt_pow_right (by decide) (by omega))
        rw [← h1] at hZ
        have h3 : Z % 65536 ^ (n + 2) = W % D % 65536 ^ (n + 2) := by
          apply Int.ofNat.inj
          show ((Z % 65536 ^ (n + 2) : Nat) : Int) = ((W % D % 65536 ^ (n + 2) : Nat) : Int)
          rw [Int.natCast_emod, hZ, Int.add_mul_emod_self_right, Int.natCast_emod (W % D)]
        rw [Nat.mod_eq_of_lt hZl, Nat.mod_eq_of_lt (by omega)] at h3
        exact h3
      rw [hZe] at hm
      have hv : ((W % D : Nat) : Int) / (65536 : Int) ^ (n + 1) = 0 := Int.ediv_eq_zero_of_lt (by omega) (by omega)
      rw [hv]
      refine RW.ps 3 rfl ?_
      refine RW.ifc (fun _ => ?_) (fun k2 => ?_)
      · refine RW.weak (lv0 := [.ref Y, .int kw, .int (Int32.ofInt ((n + 1 : Nat) : Int)), xj, xj, .long (Int64.ofInt (g : Nat)), xj, xj, xj, xj, xj, xj, xj, xj]) ⟨Or.inr rfl, Or.inr rfl, Or.inr rfl, Or.inl rfl, Or.inl rfl, Or.inr rfl, Or.inl rfl, Or.inl rfl, Or.inl rfl, Or.inl rfl, Or.inl rfl, Or.inl rfl, Or.inl rfl, Or.inl rfl, trivial⟩ ?_
        refine RW.sk [] rfl ?_
        exact hfin g w _ hg hf hm rfl rfl
      · exact absurd (xi_ge.mpr (by decide)) k2
    | succ e ih =>
      intro g w Z m0 hg hg2 hZ hZl hf hm
      have hgD : W < g * D := by
        rw [hg]
        have h1 := Nat.lt_div_mul_add (a := W) hD0
        have h2 : (W / D + 1) * D ≤ (W / D + (e + 1)) * D := Nat.mul_le_mul_right D (by omega)
        rw [Nat.add_mul, Nat.one_mul] at h2
        omega
      have hg0 : 1 ≤ g := by rw [hg]; exact Nat.le_trans (Nat.le_add_left 1 e) (Nat.le_add_left (e + 1) _)
      have hg1 : g - 1 = W / D + e := by rw [hg]; rfl
      have hgD2 : g * D ≤ 65535 * D := Nat.mul_le_mul_right D hg2
      have hUn : (W : Int) - (g : Int) * (D : Int) < 0 := by rw [← Int.natCast_mul]; omega
      have hUl : -65536 * (65536 : Int) ^ (n + 1) ≤ (W : Int) - (g : Int) * (D : Int) := by rw [← Int.natCast_mul]; omega
      have hU2 : (W : Int) - ((g - 1 : Nat) : Int) * (D : Int) = ((W : Int) - (g : Int) * (D : Int)) + (D : Int) := by
        rw [show ((g - 1 : Nat) : Int) = (g : Int) - 1 by omega, Int.sub_mul]; omega
      obtain ⟨Z2, m1, hZ2, hZ2l⟩ := hZx (g - 1) (by omega)
      rw [hU2] at hZ2
      generalize hU : (W : Int) - (g : Int) * (D : Int) = U at *
      have hv1 : -65536 ≤ U / (65536 : Int) ^ (n + 1) := Int.le_ediv_of_mul_le hP0 hUl
      have hv2 : U / (65536 : Int) ^ (n + 1) < 0 := Int.ediv_neg_of_neg_of_pos hUn hP0
      obtain ⟨t1, t2⟩ := top_dig hZ
      obtain ⟨u1, u2⟩ := top_dig hZ2
      have hv3 : (U + (D : Int)) / (65536 : Int) ^ (n + 1) = U / (65536 : Int) ^ (n + 1) + (((Z % 65536 ^ (n + 1) + D % 65536 ^ (n + 1)) / 65536 ^ (n + 1) : Nat) : Int) := by
        have h1 := Int.emod_add_mul_ediv U ((65536 : Int) ^ (n + 1))
        rw [t2] at h1
        conv => lhs; rw [← h1]
        rw [Int.add_right_comm, Int.mul_comm ((65536 : Int) ^ (n + 1)), Int.add_mul_ediv_right _ _ (Int.ne_of_gt hP0), hDm, Int.natCast_ediv, pow_int16, Int.natCast_add, Int.add_comm]
      generalize hv : U / (65536 : Int) ^ (n + 1) = v at *
      refine RW.ps 3 rfl ?_
      refine RW.ifc (fun k2 => ?_) (fun _ => ?_)
      · rw [xi_ge, i0] at k2
        have := cmp_toInt (a := v) (b := 0) (by omega) (by omega) (by decide) (by decide)
        rw [if_neg (by omega), if_neg (by omega)] at this
        have k3 : (0 : Int) ≤ (lg_cmp (Int64.ofInt v) (Int64.ofInt 0)).toInt := k2
        omega
      have hw1 : Int64.ofInt (g : Nat) - 1 = Int64.ofInt ((g - 1 : Nat) : Int) := by
        rw [show (1 : Int64) = Int64.ofInt 1 by decide, li_sub]; congr 1; omega
      refine RW.ps 8 rfl ?_
      refine RW.weak (lv0 := [.ref Y, .int kw, .int (Int32.ofInt ((n + 1 : Nat) : Int)), xj, xj, .long (Int64.ofInt ((g - 1 : Nat) : Int)), xj, xj, xj, .long (Int64.ofInt v), xj, .int 0, .int 0, xj]) ⟨Or.inr rfl, Or.inr rfl, Or.inr rfl, Or.inl rfl, Or.inl rfl, Or.inr (congrArg Value.long hw1.symm), Or.inl rfl, Or.inl rfl, Or.inl rfl, Or.inr rfl, Or.inl rfl, Or.inr rfl, Or.inr rfl, Or.inl rfl, trivial⟩ ?_
      refine RW.sk [] rfl ?_
      have loop : ∀ q j (jw : Int32) w, j + q = n + 1 → jw.toInt = (j : Int) → Fr [(Y + 10, 1)] o w → Mu w (Y + 10) 1200 N (wi R k (mv Z2 Z j)) →
          RW (fun r o' => ∃ v, r = .inl (some v) ∧ (v = .int (Int32.ofInt ((R / (D * 65536 ^ k) : Nat) : Int)) ∧ Fr [(Y + 10, 1)] o o' ∧ Mu o' (Y + 10) 1200 N (R % (D * 65536 ^ k)))) y_M_digit (xbk y_M_digit 193) [.ref Y, .int kw, .int (Int32.ofInt ((n + 1 : Nat) : Int)), xj, xj, .long (Int64.ofInt ((g - 1 : Nat) : Int)), xj, xj, xj, .long (Int64.ofInt v), xj, .int (Int32.ofInt (((Z % 65536 ^ j + D % 65536 ^ j) / 65536 ^ j : Nat) : Int)), .int jw, xj] [] w := by
        intro q
        induction q with
        | zero =>
          intro j jw w hj hjw hf hm
          have hjn : j = n + 1 := by omega
          subst hjn
          have hc := add_carry Z D (n + 1)
          generalize (Z % 65536 ^ (n + 1) + D % 65536 ^ (n + 1)) / 65536 ^ (n + 1) = c at *
          refine RW.ps 2 rfl ?_
          refine RW.icm (fun _ => ?_) (fun k2 => ?_)
          rotate_left
          · rw [xi_ge, iu (by omega), hjw] at k2; omega
          refine RW.ps 4 rfl ?_
          refine RW.top (congrArg Value.long ((show Int64.ofInt v + (Int32.ofInt (c : Nat)).toInt64 = Int64.ofInt (v + (c : Int)) by rw [ii_l (by omega) (by omega), li_add]))) ?_
          refine RW.ps 2 rfl ?_
          refine RW.weak (lv0 := [.ref Y, .int kw, .int (Int32.ofInt ((n + 1 : Nat) : Int)), xj, xj, .long (Int64.ofInt ((g - 1 : Nat) : Int)), xj, xj, xj, .long (Int64.ofInt (v + (c : Int))), xj, xj, xj, xj]) ⟨Or.inr rfl, Or.inr rfl, Or.inr rfl, Or.inl rfl, Or.inl rfl, Or.inr rfl, Or.inl rfl, Or.inl rfl, Or.inl rfl, Or.inr rfl, Or.inl rfl, Or.inl rfl, Or.inl rfl, Or.inl rfl, trivial⟩ ?_
          refine RW.sk [.ref Y] rfl ?_
          refine RW.gf (kY w hf) (pR w hf) ?_
          refine RW.ps 9 rfl ?_
          rw [← hv3]
          refine RW.top (congrArg Value.int ((show (Int64.ofInt ((U + (D : Int)) / (65536 : Int) ^ (n + 1)) &&& 65535).toInt32 = Int32.ofInt (d16 Z2 (n + 1) : Nat) by rw [li_low16, u1]))) ?_
          refine RW.ist hm.1 (k := k + (n + 1) + 1) (by rw [i_of hk, ii_add, show (1 : Int32) = Int32.ofInt 1 by decide, ii_add, ii_toInt (by omega) (by omega)]; omega) (by omega) ?_
          have hm2 : Mu (xpi w (Y + 10) (k + (n + 1) + 1) (Int32.ofInt (d16 Z2 (n + 1) : Nat))) (Y + 10) 1200 N (wi R k Z2) := by
            have h1 : mv Z2 Z (n + 1 + 1) = Z2 := by rw [mv_all hZl, Nat.mod_eq_of_lt hZ2l]
            have h2 := hm.wi (j := n + 1) (B := mv Z2 Z (n + 1 + 1)) (by omega) (wl _ (by rw [h1]; exact hZ2l)) (mv_step Z2 Z (n + 1))
            rw [h1] at h2
            exact h2
          refine RW.go ?_
          have h3 := ih (g - 1) _ Z2 m1 hg1 (by omega) (by rw [hU2]; exact hZ2) hZ2l hf.pi1 hm2
          rw [hU2] at h3
          refine RW.weak (lv0 := [.ref Y, .int kw, .int (Int32.ofInt ((n + 1 : Nat) : Int)), xj, xj, .long (Int64.ofInt ((g - 1 : Nat) : Int)), xj, xj, xj, .long (Int64.ofInt ((U + (D : Int)) / (65536 : Int) ^ (n + 1))), xj, xj, xj, xj]) ⟨Or.inr rfl, Or.inr rfl, Or.inr rfl, Or.inl rfl, Or.inl rfl, Or.inr rfl, Or.inl rfl, Or.inl rfl, Or.inl rfl, Or.inr rfl, Or.inl rfl, Or.inl rfl, Or.inl rfl, Or.inl rfl, trivial⟩ ?_
          refine RW.sk [] rfl ?_
          exact h3
        | succ q ih2 =>
          intro j jw w hj hjw hf hm
          have dZ := d16_lt Z j
          have dDl := d16_lt D j
          have hc := add_carry Z D j
          obtain ⟨s1, s2⟩ := put_dig hZ hZ2 (j := j) (by omega)
          have hmk := hm.2.2.2.2 (k + j) (by omega)
          rw [wi_hi, mv_hi (Nat.le_refl _)] at hmk
          have hm2 := hm.wi (j := j) (B := mv Z2 Z (j + 1)) (by omega) (wl _ (mv_lt hZl (by omega))) (mv_step Z2 Z j)
          rw [mv_lo (show j < j + 1 by omega)] at hm2
          generalize (Z % 65536 ^ j + D % 65536 ^ j) / 65536 ^ j = c at *
          have hidx : (kw + jw + 1).toInt = ((k + j + 1 : Nat) : Int) := by
            rw [i_of hk, i_of hjw, ii_add, show (1 : Int32) = Int32.ofInt 1 by decide, ii_add, ii_toInt (by omega) (by omega)]; omega
          refine RW.ps 2 rfl ?_
          refine RW.icm (fun k2 => ?_) (fun _ => ?_)
          · rw [xi_ge, iu (by omega), hjw] at k2; omega
          refine RW.ps 1 rfl ?_
          refine RW.gf (kY w hf) (pR w hf) ?_
          refine RW.ps 5 rfl ?_
          refine RW.ia hm.1 hidx (by omega) ?_
          rw [hmk]
          refine RW.ps 1 rfl ?_
          refine RW.gf (kY w hf) (pD w hf) ?_
          refine RW.ps 3 rfl ?_
          refine RW.ia (kD w hf) (i_succ hjw (by omega)) (by omega) ?_
          rw [dD w hf j (by omega)]
          refine RW.ps 3 rfl ?_
          refine RW.top (congrArg Value.int ((show Int32.ofInt (d16 Z j : Nat) + Int32.ofInt (d16 D j : Nat) + Int32.ofInt (c : Nat) = Int32.ofInt ((c + (d16 Z j + d16 D j) : Nat) : Int) by rw [ii_add, ii_add]; congr 1; omega))) ?_
          refine RW.ps 2 rfl ?_
          refine RW.weak (lv0 := [.ref Y, .int kw, .int (Int32.ofInt ((n + 1 : Nat) : Int)), xj, xj, .long (Int64.ofInt ((g - 1 : Nat) : Int)), xj, xj, xj, .long (Int64.ofInt v), xj, xj, .int jw, .int (Int32.ofInt ((c + (d16 Z j + d16 D j) : Nat) : Int))]) ⟨Or.inr rfl, Or.inr rfl, Or.inr rfl, Or.inl rfl, Or.inl rfl, Or.inr rfl, Or.inl rfl, Or.inl rfl, Or.inl rfl, Or.inr rfl, Or.inl rfl, Or.inl rfl, Or.inr rfl, Or.inr rfl, trivial⟩ ?_
          refine RW.sk [.ref Y] rfl ?_
          refine RW.gf (kY w hf) (pR w hf) ?_
          refine RW.ps 8 rfl ?_
          refine RW.top (congrArg Value.int ((show Int32.ofInt ((c + (d16 Z j + d16 D j) : Nat) : Int) &&& 65535 = Int32.ofInt (d16 Z2 j : Nat) by rw [ii_mask, ← s1]; rfl))) ?_
          refine RW.ist hm.1 hidx (by omega) ?_
          refine RW.ps 5 rfl ?_
          refine RW.go ?_
          refine RW.weak (lv0 := [.ref Y, .int kw, .int (Int32.ofInt ((n + 1 : Nat) : Int)), xj, xj, .long (Int64.ofInt ((g - 1 : Nat) : Int)), xj, xj, xj, .long (Int64.ofInt v), xj, .int (Int32.ofInt (((c + (d16 Z j + d16 D j)) / 65536 : Nat) : Int)), .int (jw + 1), xj]) ⟨Or.inr rfl, Or.inr rfl, Or.inr rfl, Or.inl rfl, Or.inl rfl, Or.inr rfl, Or.inl rfl, Or.inl rfl, Or.inl rfl, Or.inr rfl, Or.inl rfl, Or.inr (congrArg Value.int (m_shr (k := 16) (y := 16) rfl (by decide) (by omega)).symm), Or.inr rfl, Or.inl rfl, trivial⟩ ?_
          refine RW.sk [] rfl ?_
          rw [s2]
          exact ih2 (j + 1) (jw + 1) _ (by omega) (i_succ hjw (by omega)) hf.pi1 hm2
      have h0 := loop (n + 1) 0 0 w (Nat.zero_add _) rfl hf (by rw [mv_0]; exact hm)
      rw [Nat.pow_zero, Nat.mod_one, Nat.mod_one] at h0
      exact h0
  -- subtracting g times the divisor
  have h64 : ∀ g : Nat, W / D ≤ g → g ≤ 65535 → RW (fun r o' => ∃ v, r = .inl (some v) ∧ (v = .int (Int32.ofInt ((R / (D * 65536 ^ k) : Nat) : Int)) ∧ Fr [(Y + 10, 1)] o o' ∧ Mu o' (Y + 10) 1200 N (R % (D * 65536 ^ k)))) y_M_digit (xbk y_M_digit 64) [.ref Y, .int kw, .int (Int32.ofInt ((n + 1 : Nat) : Int)), xj, xj, xj, xj, xj, xj, xj, xj, xj, xj, xj] [.long (Int64.ofInt (g : Nat))] o := by
    intro g hg1 hg2
    obtain ⟨Z, m0, hZ, hZl⟩ := hZx g hg2
    have loop : ∀ q j (jw : Int32) w (bo : Int), j + q = n + 1 → jw.toInt = (j : Int) → bo = (((W % 65536 ^ j : Nat) : Int) - (g : Int) * ((D % 65536 ^ j : Nat) : Int)) / (65536 : Int) ^ j → Fr [(Y + 10, 1)] o w → Mu w (Y + 10) 1200 N (wi R k (mv Z W j)) →
        RW (fun r o' => ∃ v, r = .inl (some v) ∧ (v = .int (Int32.ofInt ((R / (D * 65536 ^ k) : Nat) : Int)) ∧ Fr [(Y + 10, 1)] o o' ∧ Mu o' (Y + 10) 1200 N (R % (D * 65536 ^ k)))) y_M_digit (xbk y_M_digit 72) [.ref Y, .int kw, .int (Int32.ofInt ((n + 1 : Nat) : Int)), xj, xj, .long (Int64.ofInt (g : Nat)), xj, .long (Int64.ofInt (-bo)), xj, .int jw, xj, xj, xj, xj] [] w := by
      intro q
      induction q with
      | zero =>
        intro j jw w bo hj hjw hbo hf hm
        have hjn : j = n + 1 := by omega
        subst hjn
        have hb := sub_bo (W := W) (D := D) hg2 (n + 1)
        rw [← hbo] at hb
        have dW := d16_lt W (n + 1)
        obtain ⟨t1, t2⟩ := top_dig hZ
        have hv : ((W : Int) - (g : Int) * (D : Int)) / (65536 : Int) ^ (n + 1) = bo + (d16 W (n + 1) : Int) := by
          have h1 := d16_step W (n + 1)
          rw [Nat.mod_eq_of_lt hWl] at h1
          have h2 : (W : Int) = ((W % 65536 ^ (n + 1) : Nat) : Int) + (d16 W (n + 1) : Int) * (65536 : Int) ^ (n + 1) := by
            rw [← pow_int16, ← Int.natCast_mul, ← Int.natCast_add]; exact congrArg _ h1
          conv => lhs; rw [h2]
          rw [show ∀ u v w : Int, u + v - w = (u - w) + v from fun u v w => by omega, Int.add_mul_ediv_right _ _ (Int.ne_of_gt hP0), hbo, hDm]
        have hmk := c_mpart hm (by decide) (i_add hk (iu (u := n + 1) (by omega)) (by omega))
        rw [wi_hi, mv_hi (Nat.le_refl _)] at hmk
        have hm2 : Mu (xpi w (Y + 10) (k + (n + 1) + 1) (Int32.ofInt (d16 Z (n + 1) : Nat))) (Y + 10) 1200 N (wi R k Z) := by
          have h1 : mv Z W (n + 1 + 1) = Z := by rw [mv_all hWl, Nat.mod_eq_of_lt hZl]
          have h2 := hm.wi (j := n + 1) (B := mv Z W (n + 1 + 1)) (by omega) (wl _ (by rw [h1]; exact hZl)) (mv_step Z W (n + 1))
          rw [h1] at h2
          exact h2
        refine RW.ps 2 rfl ?_
        refine RW.icm (fun _ => ?_) (fun k2 => ?_)
        rotate_left
        · rw [xi_ge, iu (by omega), hjw] at k2; omega
        refine RW.ps 1 rfl ?_
        refine RW.gf (kY w hf) (pR w hf) ?_
        refine RW.ps 3 rfl ?_
        refine RW.cp rfl rfl rfl rfl rfl (hmk) ?_
        refine RW.ps 3 rfl ?_
        refine RW.top (congrArg Value.long ((show (Int32.ofInt (d16 W (n + 1) : Nat)).toInt64 - Int64.ofInt (-bo) = Int64.ofInt (((W : Int) - (g : Int) * (D : Int)) / (65536 : Int) ^ (n + 1)) by rw [ii_l (by omega) (by omega), li_sub, hv]; congr 1; omega))) ?_
        refine RW.ps 2 rfl ?_
        refine RW.weak (lv0 := [.ref Y, .int kw, .int (Int32.ofInt ((n + 1 : Nat) : Int)), xj, xj, .long (Int64.ofInt (g : Nat)), xj, xj, xj, .long (Int64.ofInt (((W : Int) - (g : Int) * (D : Int)) / (65536 : Int) ^ (n + 1))), xj, xj, xj, xj]) ⟨Or.inr rfl, Or.inr rfl, Or.inr rfl, Or.inl rfl, Or.inl rfl, Or.inr rfl, Or.inl rfl, Or.inl rfl, Or.inl rfl, Or.inr rfl, Or.inl rfl, Or.inl rfl, Or.inl rfl, Or.inl rfl, trivial⟩ ?_
        refine RW.sk [.ref Y] rfl ?_
        refine RW.gf (kY w hf) (pR w hf) ?_
        refine RW.ps 9 rfl ?_
        refine RW.top (congrArg Value.int ((show (Int64.ofInt (((W : Int) - (g : Int) * (D : Int)) / (65536 : Int) ^ (n + 1)) &&& 65535).toInt32 = Int32.ofInt (d16 Z (n + 1) : Nat) by rw [li_low16, t1]))) ?_
        refine RW.ist hm.1 (k := k + (n + 1) + 1) (by rw [i_of hk, ii_add, show (1 : Int32) = Int32.ofInt 1 by decide, ii_add, ii_toInt (by omega) (by omega)]; omega) (by omega) ?_
        exact back (g - W / D) g _ Z m0 (Nat.add_sub_cancel' hg1).symm hg2 hZ hZl hf.pi1 hm2
      | succ q ih =>
        intro j jw w bo hj hjw hbo hf hm
        have hb := sub_bo (W := W) (D := D) hg2 j
        obtain ⟨s1, s2⟩ := sub_dig hZ (j := j) (by omega)
        rw [← hbo] at hb s1 s2
        have dW := d16_lt W j
        have dDl := d16_lt D j
        have hgd : g * d16 D j ≤ 65535 * 65535 := Nat.mul_le_mul hg2 (by omega)
        have hmk := c_mpart hm (by decide) (i_add hk hjw (by omega))
        rw [wi_hi, mv_hi (Nat.le_refl _)] at hmk
        have hm2 := hm.wi (j := j) (B := mv Z W (j + 1)) (by omega) (wl _ (mv_lt hWl (by omega))) (mv_step Z W j)
        rw [mv_lo (show j < j + 1 by omega)] at hm2
        have hidx : (kw + jw + 1).toInt = ((k + j + 1 : Nat) : Int) := by
          rw [i_of hk, i_of hjw, ii_add, show (1 : Int32) = Int32.ofInt 1 by decide, ii_add, ii_toInt (by omega) (by omega)]; omega
        refine RW.ps 2 rfl ?_
        refine RW.icm (fun k2 => ?_) (fun _ => ?_)
        · rw [xi_ge, iu (by omega), hjw] at k2; omega
        refine RW.ps 1 rfl ?_
        refine RW.gf (kY w hf) (pR w hf) ?_
        refine RW.ps 3 rfl ?_
        refine RW.cp rfl rfl rfl rfl rfl (hmk) ?_
        refine RW.ps 3 rfl ?_
        refine RW.gf (kY w hf) (pD w hf) ?_
        refine RW.ps 3 rfl ?_
        refine RW.ia (kD w hf) (i_succ hjw (by omega)) (by omega) ?_
        rw [dD w hf j (by omega)]
        refine RW.ps 5 rfl ?_
        refine RW.top (congrArg Value.long ((show (Int32.ofInt (d16 W j : Nat)).toInt64 - Int64.ofInt (g : Nat) * (Int32.ofInt (d16 D j : Nat)).toInt64 - Int64.ofInt (-bo) = Int64.ofInt (bo + ((d16 W j : Int) - (g : Int) * (d16 D j : Int))) by rw [ii_l (by omega) (by omega), ii_l (by omega) (by omega), li_mul, li_sub, li_sub]; congr 1; omega))) ?_
        have hvb : -4294967296 ≤ bo + ((d16 W j : Int) - (g : Int) * (d16 D j : Int)) ∧ bo + ((d16 W j : Int) - (g : Int) * (d16 D j : Int)) ≤ 4294967296 := by rw [← Int.natCast_mul]; omega
        generalize bo + ((d16 W j : Int) - (g : Int) * (d16 D j : Int)) = v at *
        refine RW.ps 2 rfl ?_
        refine RW.weak (lv0 := [.ref Y, .int kw, .int (Int32.ofInt ((n + 1 : Nat) : Int)), xj, xj, .long (Int64.ofInt (g : Nat)), xj, xj, xj, .int jw, .long (Int64.ofInt v), xj, xj, xj]) ⟨Or.inr rfl, Or.inr rfl, Or.inr rfl, Or.inl rfl, Or.inl rfl, Or.inr rfl, Or.inl rfl, Or.inl rfl, Or.inl rfl, Or.inr rfl, Or.inr rfl, Or.inl rfl, Or.inl rfl, Or.inl rfl, trivial⟩ ?_
        refine RW.sk [.ref Y] rfl ?_
        refine RW.gf (kY w hf) (pR w hf) ?_
        refine RW.ps 9 rfl ?_
        refine RW.top (congrArg Value.int ((show (Int64.ofInt v &&& 65535).toInt32 = Int32.ofInt (d16 Z j : Nat) by rw [li_low16, s1]))) ?_
        refine RW.ist hm.1 hidx (by omega) ?_
        refine RW.ps 6 rfl ?_
        refine RW.go ?_
        refine RW.weak (lv0 := [.ref Y, .int kw, .int (Int32.ofInt ((n + 1 : Nat) : Int)), xj, xj, .long (Int64.ofInt (g : Nat)), xj, .long (Int64.ofInt (-(v / 65536))), xj, .int (jw + 1), xj, xj, xj, xj]) ⟨Or.inr rfl, Or.inr rfl, Or.inr rfl, Or.inl rfl, Or.inl rfl, Or.inr rfl, Or.inl rfl, Or.inr (congrArg Value.long (by rw [li_shr16 (by omega) (by omega), l_neg])), Or.inl rfl, Or.inr rfl, Or.inl rfl, Or.inl rfl, Or.inl rfl, Or.inl rfl, trivial⟩ ?_
        refine RW.sk [] rfl ?_
        exact ih (j + 1) (jw + 1) _ (v / 65536) (by omega) (i_succ hjw (by omega)) s2 hf.pi1 hm2
    refine RW.ps 5 rfl ?_
    refine RW.weak (lv0 := [.ref Y, .int kw, .int (Int32.ofInt ((n + 1 : Nat) : Int)), xj, xj, .long (Int64.ofInt (g : Nat)), xj, .long 0, xj, .int 0, xj, xj, xj, xj]) ⟨Or.inr rfl, Or.inr rfl, Or.inr rfl, Or.inl rfl, Or.inl rfl, Or.inr rfl, Or.inl rfl, Or.inr rfl, Or.inl rfl, Or.inr rfl, Or.inl rfl, Or.inl rfl, Or.inl rfl, Or.inl rfl, trivial⟩ ?_
    refine RW.sk [] rfl ?_
    exact loop (n + 1) 0 0 o 0 (Nat.zero_add _) rfl (by rw [Nat.pow_zero, Nat.mod_one, Nat.mod_one, show ((0 : Nat) : Int) = 0 from rfl, Int.mul_zero]; rfl) (Fr.refl _ _) (by rw [mv_0, hRW]; exact hR)
  -- the guess
  have hDt : d16 D n = D / 65536 ^ n := by
    unfold d16
    rw [Nat.mod_eq_of_lt]
    rw [Nat.div_lt_iff_lt_mul (pow16_pos n), Nat.mul_comm, ← Nat.pow_succ]; exact hDl
  have htp : d16 R (k + (n + 1)) * 65536 + d16 R (k + n) = W / 65536 ^ n := by
    have h1 : W / 65536 ^ (n + 1) < 65536 := by
      rw [Nat.div_lt_iff_lt_mul (pow16_pos _), Nat.mul_comm, ← Nat.pow_succ]; exact hWl
    have h2 : d16 W (n + 1) = W / 65536 ^ (n + 1) := by
      unfold d16
      rw [Nat.mod_eq_of_lt h1]
    rw [← d16_wi R k (n + 1), ← d16_wi R k n, hW, h2]
    exact (d16_up W n).symm
  have htq : W / D ≤ W / 65536 ^ n / d16 D n := by
    rw [Nat.le_div_iff_mul_le (by omega), Nat.le_div_iff_mul_le (pow16_pos n), hDt, Nat.mul_assoc]
    exact Nat.le_trans (Nat.mul_le_mul_left _ (Nat.div_mul_le_self D (65536 ^ n))) (Nat.div_mul_le_self W D)
  have p1 := c_mpart hR (by decide) (i_add hk (iu (u := n + 1) (by omega)) (by omega))
  have p2 := c_mpart hR (by decide) (k := k + n) (iw := kw + Int32.ofInt ((n + 1 : Nat) : Int) - 1) (by rw [i_of hk, ii_add, show (1 : Int32) = Int32.ofInt 1 by decide, ii_sub, ii_toInt (by omega) (by omega)]; omega)
  have dr1 := d16_lt R (k + (n + 1))
  have dr2 := d16_lt R (k + n)
  refine RW.ps 1 rfl ?_
  refine RW.gf hB.1 (pD o (Fr.refl _ _)) ?_
  refine RW.ps 1 rfl ?_
  refine RW.ia hD.1 i0n (by omega) ?_
  rw [hD.2.2.2.1, hn]
  refine RW.ps 2 rfl ?_
  refine RW.gf hB.1 (pR o (Fr.refl _ _)) ?_
  refine RW.ps 3 rfl ?_
  refine RW.cp rfl rfl rfl rfl rfl (p1) ?_
  refine RW.ps 1 rfl ?_
  refine RW.top (congrArg Value.long (ii_l (z := (d16 R (k + (n + 1)) : Nat)) (by omega) (by omega))) ?_
  refine RW.ps 2 rfl ?_
  refine RW.top (congrArg Value.long (n_shl (k := 16) (y := 16) (d16 R (k + (n + 1))) rfl (by decide))) ?_
  refine RW.ps 1 rfl ?_
  refine RW.gf hB.1 (pR o (Fr.refl _ _)) ?_
  refine RW.ps 5 rfl ?_
  refine RW.cp rfl rfl rfl rfl rfl (p2) ?_
  refine RW.ps 1 rfl ?_
  refine RW.top (congrArg Value.long (ii_l (z := (d16 R (k + n) : Nat)) (by omega) (by omega))) ?_
  refine RW.ps 1 rfl ?_
  refine RW.top (congrArg Value.long (n_or (a := d16 R (k + (n + 1))) (b := d16 R (k + n)) (k := 16) dr2 (by omega))) ?_
  refine RW.ps 3 rfl ?_
  refine RW.weak (lv0 := [.ref Y, .int kw, .int (Int32.ofInt ((n + 1 : Nat) : Int)), .long (Int64.ofInt ((d16 R (k + (n + 1)) * 65536 + d16 R (k + n) : Nat) : Int)), xj, xj, xj, xj, xj, xj, xj, xj, xj, xj]) ⟨Or.inr rfl, Or.inr rfl, Or.inr rfl, Or.inr rfl, Or.inl rfl, Or.inl rfl, Or.inl rfl, Or.inl rfl, Or.inl rfl, Or.inl rfl, Or.inl rfl, Or.inl rfl, Or.inl rfl, Or.inl rfl, trivial⟩ ?_
  refine RW.sk [.ref Y, .long (Int64.ofInt ((d16 R (k + (n + 1)) * 65536 + d16 R (k + n) : Nat) : Int))] rfl ?_
  refine RW.gf hB.1 (pD o (Fr.refl _ _)) ?_
  refine RW.ps 1 rfl ?_
  refine RW.ia hD.1 (iu (u := n + 1) (by omega)) (by omega) ?_
  rw [hD.2.2.2.2 n (by omega)]
  refine RW.ps 1 rfl ?_
  refine RW.top (congrArg Value.long (ii_l (z := (d16 D n : Nat)) (by omega) (by omega))) ?_
  refine RW.ldv (l_ne0 (by omega) (by omega)) ?_
  refine RW.top (congrArg Value.long (n_div (a := d16 R (k + (n + 1)) * 65536 + d16 R (k + n)) (b := d16 D n) (by omega) (by omega))) ?_
  have hgb : (d16 R (k + (n + 1)) * 65536 + d16 R (k + n)) / d16 D n ≤ d16 R (k + (n + 1)) * 65536 + d16 R (k + n) := Nat.div_le_self _ _
  rw [← htp] at htq
  generalize hgs : (d16 R (k + (n + 1)) * 65536 + d16 R (k + n)) / d16 D n = gs at *
  refine RW.ps 4 rfl ?_
  refine RW.weak (lv0 := [.ref Y, .int kw, .int (Int32.ofInt ((n + 1 : Nat) : Int)), xj, xj, .long (Int64.ofInt (gs : Nat)), xj, xj, xj, xj, xj, xj, xj, xj]) ⟨Or.inr rfl, Or.inr rfl, Or.inr rfl, Or.inl rfl, Or.inl rfl, Or.inr rfl, Or.inl rfl, Or.inl rfl, Or.inl rfl, Or.inl rfl, Or.inl rfl, Or.inl rfl, Or.inl rfl, Or.inl rfl, trivial⟩ ?_
  refine RW.sk [.int (lg_cmp (Int64.ofInt (gs : Nat)) (Int64.ofInt ((65535 : Nat) : Int)))] rfl ?_
  refine RW.ifc (fun k2 => ?_) (fun k2 => ?_)
  · rw [lcmp_le (by omega) (by decide)] at k2
    refine RW.ps 1 rfl ?_
    refine RW.weak (lv0 := [.ref Y, .int kw, .int (Int32.ofInt ((n + 1 : Nat) : Int)), xj, xj, xj, xj, xj, xj, xj, xj, xj, xj, xj]) ⟨Or.inr rfl, Or.inr rfl, Or.inr rfl, Or.inl rfl, Or.inl rfl, Or.inl rfl, Or.inl rfl, Or.inl rfl, Or.inl rfl, Or.inl rfl, Or.inl rfl, Or.inl rfl, Or.inl rfl, Or.inl rfl, trivial⟩ ?_
    refine RW.sk [.long (Int64.ofInt (gs : Nat))] rfl ?_
    exact h64 gs htq k2
  · refine RW.ps 1 rfl ?_
    refine RW.go ?_
    refine RW.weak (lv0 := [.ref Y, .int kw, .int (Int32.ofInt ((n + 1 : Nat) : Int)), xj, xj, xj, xj, xj, xj, xj, xj, xj, xj, xj]) ⟨Or.inr rfl, Or.inr rfl, Or.inr rfl, Or.inl rfl, Or.inl rfl, Or.inl rfl, Or.inl rfl, Or.inl rfl, Or.inl rfl, Or.inl rfl, Or.inl rfl, Or.inl rfl, Or.inl rfl, Or.inl rfl, trivial⟩ ?_
    refine RW.sk [.long (Int64.ofInt ((65535 : Nat) : Int))] rfl ?_
    exact h64 65535 (by omega) (Nat.le_refl _)
end M6
