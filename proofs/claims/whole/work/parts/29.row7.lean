/-! ints as bits; ROWS: against, bits, hasOne, becomeLong. -/
theorem vi_inj {a b : Int32} (h : a.toBitVec = b.toBitVec) : a = b := Int32.toBitVec_inj.mp h
theorem vi_tn {n : Nat} (h : n < 2 ^ 32) : (nI n).toBitVec.toNat = n := by
  show (BitVec.ofNat 32 n).toNat = n
  rw [BitVec.toNat_ofNat, Nat.mod_eq_of_lt h]
theorem vi_c : ∀ k, k < 32 → ((nI k) &&& 31) = nI k := by decide +kernel
theorem vi_cu : ∀ k, k < 32 → ((nI k).toUInt32 &&& Int32.toUInt32 31) = UInt32.ofNat k := by decide +kernel
theorem vi_sm : ∀ k, k < 32 → (BitVec.ofNat 32 k).smod 32 = BitVec.ofNat 32 k := by decide +kernel
theorem m_ushr {n k : Nat} {y : Int32} (hy : y.toInt = (k : Int)) (hk : k < 32) (hn : n < 2 ^ 32) : ((Int32.ofInt (n : Int)).toUInt32 >>> (y.toUInt32 &&& Int32.toUInt32 31)).toInt32 = Int32.ofInt ((n / 2 ^ k : Nat) : Int) := by
  rw [n_eq hy, in_eq, in_eq, vi_cu k hk]
  apply vi_inj
  apply BitVec.eq_of_toNat_eq
  show ((nI n).toUInt32 >>> UInt32.ofNat k).toNat = (BitVec.ofNat 32 _).toNat
  have h1 : (UInt32.ofNat k).toNat = k := by
    show (BitVec.ofNat 32 k).toNat = k
    rw [BitVec.toNat_ofNat, Nat.mod_eq_of_lt (by omega)]
  have h2 : (nI n).toUInt32.toNat = n := vi_tn hn
  rw [UInt32.toNat_shiftRight, h1, h2, Nat.mod_eq_of_lt hk, Nat.shiftRight_eq_div_pow, BitVec.toNat_ofNat, Nat.mod_eq_of_lt (Nat.lt_of_le_of_lt (Nat.div_le_self _ _) hn)]
theorem m_shl (n : Nat) {k : Nat} {y : Int32} (hy : y.toInt = (k : Int)) (hk : k < 32) : Int32.ofInt (n : Int) <<< (y &&& 31) = Int32.ofInt ((n * 2 ^ k : Nat) : Int) := by
  rw [n_eq hy, in_eq, in_eq, vi_c k hk]
  apply vi_inj
  have e : ∀ m, (nI m).toBitVec = BitVec.ofNat 32 m := fun _ => rfl
  rw [Int32.toBitVec_shiftLeft, e, e, e, vi_sm k hk]
  apply BitVec.eq_of_toNat_eq
  rw [BitVec.shiftLeft_eq', BitVec.toNat_shiftLeft, BitVec.toNat_ofNat, BitVec.toNat_ofNat, BitVec.toNat_ofNat, Nat.mod_eq_of_lt (show k < 2 ^ 32 by omega), Nat.shiftLeft_eq, Nat.mul_mod, Nat.mod_mod, ← Nat.mul_mod]
theorem m_shr {n k : Nat} {y : Int32} (hy : y.toInt = (k : Int)) (hk : k < 32) (hn : n < 2 ^ 31) : Int32.ofInt (n : Int) >>> (y &&& 31) = Int32.ofInt ((n / 2 ^ k : Nat) : Int) := by
  apply Int32.toInt_inj.mp
  rw [n_eq hy, vi_c k hk]
  have e0 : (((nI k).toBitVec).smod 32).toNat = k := by
    show ((BitVec.ofNat 32 k).smod 32).toNat = k
    rw [vi_sm k hk, BitVec.toNat_ofNat, Nat.mod_eq_of_lt (by omega)]
  have e : ∀ d, (((nI k).toBitVec).smod 32).toNat = d → (Int32.ofInt (n : Int) >>> nI k).toInt = (Int32.ofInt (n : Int)).toInt >>> d := by
    intro d hd
    rw [← hd]
    exact BitVec.toInt_sshiftRight ..
  have hn2 := Nat.lt_of_le_of_lt (Nat.div_le_self n (2 ^ k)) hn
  rw [e k e0, Int.shiftRight_eq_div_pow, iu hn, iu hn2]
  exact (Int.natCast_ediv _ _).symm
theorem m_and {a b : Nat} (ha : a < 2 ^ 32) (hb : b < 2 ^ 32) : Int32.ofInt (a : Int) &&& Int32.ofInt (b : Int) = Int32.ofInt ((a &&& b : Nat) : Int) := by
  rw [in_eq, in_eq, in_eq]
  apply vi_inj
  apply BitVec.eq_of_toNat_eq
  show ((nI a).toBitVec &&& (nI b).toBitVec).toNat = (nI (a &&& b)).toBitVec.toNat
  rw [BitVec.toNat_and, vi_tn ha, vi_tn hb, vi_tn (Nat.and_lt_two_pow _ hb)]
theorem m_and1 {a : Nat} (ha : a < 2 ^ 32) : Int32.ofInt (a : Int) &&& 1 = Int32.ofInt ((a % 2 : Nat) : Int) := by
  rw [show (1 : Int32) = Int32.ofInt ((1 : Nat) : Int) by decide, m_and ha (by decide), show 1 = 2 ^ 1 - 1 from rfl, Nat.and_two_pow_sub_one_eq_mod]
theorem li_and1 (n : Nat) : Int64.ofInt (n : Int) &&& 1 = Int64.ofInt ((n % 2 : Nat) : Int) := by
  apply Int64.toBitVec_inj.mp
  show (BitVec.ofInt 64 n &&& 1#64) = BitVec.ofInt 64 _
  apply BitVec.eq_of_toNat_eq
  rw [BitVec.toNat_and, BitVec.toNat_ofInt, BitVec.toNat_ofInt]
  have e1 : (1#64).toNat = 2 ^ 1 - 1 := rfl
  rw [e1, Nat.and_two_pow_sub_one_eq_mod]
  omega
/-- how two numbers stand to each other -/
def cmpI (x y : Nat) : Int32 := if x < y then -1 else if x = y then 0 else 1
theorem cmpI_lt {x y : Nat} (h : x < y) : cmpI x y = -1 := if_pos h
theorem cmpI_eq (x : Nat) : cmpI x x = 0 := by unfold cmpI; rw [if_neg (by omega), if_pos rfl]
theorem cmpI_gt {x y : Nat} (h : y < x) : cmpI x y = 1 := by unfold cmpI; rw [if_neg (by omega), if_neg (by omega)]
theorem dg_less {x y n : Nat} (h : x / 2147483648 ^ (n + 1) = y / 2147483648 ^ (n + 1)) (hd : dg x n < dg y n) : x < y := by
  rcases Nat.lt_or_ge x y with h1 | h1
  · exact h1
  · have h2 := Nat.div_le_div_right (c := 2147483648 ^ n) h1
    rw [dg_up x n, dg_up y n, h] at h2
    omega
theorem nl_less {x y : Nat} (h : nl x < nl y) : x < y := by
  rcases Nat.lt_or_ge x y with h1 | h1
  · exact h1
  · have := nl_mono h1; omega
theorem c_against {o : xO} {a b x y : Nat} (ha : Rn o a x) (hb : Rn o b y) : Cp y_Row_against [.ref a, .ref b] o (.int (cmpI x y)) := by
  have hnx := big_nl ha.2.1
  have hny := big_nl hb.2.1
  refine RW.ps 1 rfl ?_
  refine RW.gf ha.1.1 ha.2.2.2 ?_
  refine RW.ps 1 rfl ?_
  refine RW.gf hb.1.1 hb.2.2.2 ?_
  refine RW.icm (fun h1 => ?_) (fun h1 => ?_)
  · rw [xi_eq, iu (by omega), iu (by omega)] at h1
    have loop : ∀ (n : Nat) (i : Int32), i.toInt = (n : Int) - 1 → n < 1000 → x / 2147483648 ^ n = y / 2147483648 ^ n → RW (fun r' o' => r' = .inl (some (.int (cmpI x y))) ∧ o' = o) y_Row_against (xbk y_Row_against 35) [.ref a, .ref b, .int i] [] o := by
      intro n
      induction n with
      | zero =>
        intro i hi _ he
        rw [Nat.pow_zero, Nat.div_one, Nat.div_one] at he
        subst he
        refine RW.ps 1 rfl ?_
        refine RW.ifc (fun _ => ?_) (fun h2 => ?_)
        · refine RW.ps 1 rfl ?_
          exact RW.re rfl rfl ⟨by rw [cmpI_eq], rfl⟩
        · rw [xi_lt, hi, i0] at h2; omega
      | succ n ih =>
        intro i hi hn he
        have hi : i.toInt = (n : Int) := by omega
        refine RW.ps 1 rfl ?_
        refine RW.ifc (fun h2 => ?_) (fun _ => ?_)
        · rw [xi_lt, hi, i0] at h2; omega
        have c1 := c_dg ha.1 hi ha.2.1 (by rw [ha.2.2.1]; rfl)
        have c2 := c_dg hb.1 hi hb.2.1 (by rw [hb.2.2.1]; rfl)
        have hd1 := dg_lt x n
        have hd2 := dg_lt y n
        refine RW.ps 2 rfl ?_
        refine RW.cp rfl rfl (xrc_v rfl rfl ha.1.1) rfl rfl c1 ?_
        refine RW.ps 2 rfl ?_
        refine RW.cp rfl rfl (xrc_v rfl rfl hb.1.1) rfl rfl c2 ?_
        refine RW.ps 1 rfl ?_
        have hcm := cmp_toInt (a := (dg x n : Int)) (b := (dg y n : Int)) (by omega) (by omega) (by omega) (by omega)
        refine RW.ifc (fun h2 => ?_) (fun h2 => ?_)
        · rw [xi_eq, i0, hcm] at h2
          refine RW.ps 1 rfl ?_
          refine RW.go ?_
          refine ih _ ?_ (by omega) ?_
          · show (i + (-1)).toInt = _
            rw [← Int32.sub_eq_add_neg, i_subnat hi (by omega)]
          · rw [dg_up x n, dg_up y n, he]
            split at h2
            · omega
            · split at h2 <;> omega
        · rw [xi_eq, i0, hcm] at h2
          refine RW.ps 2 rfl ?_
          refine RW.cp rfl rfl (xrc_v rfl rfl ha.1.1) rfl rfl c1 ?_
          refine RW.ps 2 rfl ?_
          refine RW.cp rfl rfl (xrc_v rfl rfl hb.1.1) rfl rfl c2 ?_
          refine RW.ps 1 rfl ?_
          refine RW.ifc (fun h3 => ?_) (fun h3 => ?_)
          · rw [xi_ge, i0, hcm] at h3
            have h4 : dg y n < dg x n := by
              split at h2
              · omega
              · split at h2
                · omega
                · rename_i k1 k2; rw [if_neg k1, if_neg k2] at h3; omega
            refine RW.ps 1 rfl ?_
            exact RW.re rfl rfl ⟨by rw [cmpI_gt (dg_less he.symm h4)], rfl⟩
          · rw [xi_ge, i0, hcm] at h3
            have h4 : dg x n < dg y n := by
              split at h3
              · omega
              · split at h3 <;> omega
            refine RW.ps 1 rfl ?_
            refine RW.go ?_
            exact RW.re rfl rfl ⟨by rw [cmpI_lt (dg_less he h4)], rfl⟩
    refine RW.ps 1 rfl ?_
    refine RW.gf ha.1.1 ha.2.2.2 ?_
    refine RW.ps 3 rfl ?_
    refine loop (nl x) _ ?_ (by omega) ?_
    · exact i_subnat (iu (by omega)) (by omega)
    · rw [Nat.div_eq_of_lt (nl_le.mp (Nat.le_refl _)), Nat.div_eq_of_lt (nl_le.mp (by omega))]
  · rw [xi_eq, iu (by omega), iu (by omega)] at h1
    refine RW.ps 1 rfl ?_
    refine RW.gf ha.1.1 ha.2.2.2 ?_
    refine RW.ps 1 rfl ?_
    refine RW.gf hb.1.1 hb.2.2.2 ?_
    refine RW.icm (fun h2 => ?_) (fun h2 => ?_)
    · rw [xi_ge, iu (by omega), iu (by omega)] at h2
      refine RW.ps 1 rfl ?_
      exact RW.re rfl rfl ⟨by rw [cmpI_gt (nl_less (by omega))], rfl⟩
    · rw [xi_ge, iu (by omega), iu (by omega)] at h2
      refine RW.ps 1 rfl ?_
      refine RW.go ?_
      exact RW.re rfl rfl ⟨by rw [cmpI_lt (nl_less (by omega))], rfl⟩
/-! how many bits -/
theorem nbit_self (x : Nat) : x < 2 ^ nbit x := nbit_le.mp (Nat.le_refl _)
theorem nbit_div {x c : Nat} (h : x / 2 ^ c ≠ 0) : nbit x = c + nbit (x / 2 ^ c) := by
  have hp : 0 < 2 ^ c := Nat.two_pow_pos c
  apply Nat.le_antisymm
  · rw [nbit_le, Nat.pow_add, Nat.mul_comm, ← Nat.div_lt_iff_lt_mul hp]
    exact nbit_self _
  · rcases Nat.lt_or_ge (nbit x) c with h1 | h1
    · exact absurd (Nat.div_eq_of_lt (nbit_le.mp (Nat.le_of_lt h1))) h
    · obtain ⟨m, hm⟩ : ∃ m, nbit x = c + m := ⟨nbit x - c, by omega⟩
      rw [hm]
      apply Nat.add_le_add_left
      rw [nbit_le, Nat.div_lt_iff_lt_mul hp, Nat.mul_comm, ← Nat.pow_add, ← hm]
      exact nbit_self _
theorem nbit_pos {x : Nat} (h : x ≠ 0) : 0 < nbit x := by unfold nbit; rw [if_neg h]; omega
theorem nbit_0 : nbit 0 = 0 := rfl
theorem c_nlz {o : xO} {d : Nat} (h0 : 0 < d) (h1 : d < 2147483648) : Cp y_Int_numberOfLeadingZeros [.int (Int32.ofInt (d : Int))] o (.int (Int32.ofInt ((32 - nbit d : Nat) : Int))) := by
  have hnb := nbit_le.mpr (show d < 2 ^ 31 from h1)
  have hnb0 := nbit_pos (x := d) (by omega)
  have s73 : ∀ i n : Nat, 0 < i → i < 4 → n + nbit d = 31 + nbit i → RW (fun r' o' => r' = .inl (some (.int (Int32.ofInt ((32 - nbit d : Nat) : Int)))) ∧ o' = o) y_Int_numberOfLeadingZeros (xbk y_Int_numberOfLeadingZeros 73) [.int (Int32.ofInt (i : Int)), .int (Int32.ofInt (n : Int))] [] o := by
    intro i n hi0 hi hn
    refine RW.ps 5 rfl ?_
    rw [m_ushr (k := 1) rfl (by decide) (by omega), ii_sub]
    refine RW.re rfl rfl ⟨?_, rfl⟩
    have : (n : Int) - ((i / 2 ^ 1 : Nat) : Int) = ((32 - nbit d : Nat) : Int) := by
      have : i = 1 ∨ i = 2 ∨ i = 3 := by omega
      rcases this with h | h | h <;> subst h
      · rw [show nbit 1 = 1 by decide +kernel] at hn; omega
      · rw [show nbit 2 = 2 by decide +kernel] at hn; omega
      · rw [show nbit 3 = 2 by decide +kernel] at hn; omega
    rw [this]
  have step : ∀ (i c : Nat), 2 ^ c ≤ i → nbit i = c + nbit (i / 2 ^ c) := fun i c h => nbit_div (by have := Nat.div_pos h (Nat.two_pow_pos c); omega)
  have s61 : ∀ i n : Nat, 0 < i → i < 16 → n + nbit d = 31 + nbit i → n < 32 → RW (fun r' o' => r' = .inl (some (.int (Int32.ofInt ((32 - nbit d : Nat) : Int)))) ∧ o' = o) y_Int_numberOfLeadingZeros (xbk y_Int_numberOfLeadingZeros 61) [.int (Int32.ofInt (i : Int)), .int (Int32.ofInt (n : Int))] [] o := by
    intro i n hi0 hi hn hn2
    refine RW.ps 2 rfl ?_
    refine RW.icm (fun h2 => ?_) (fun h2 => ?_)
    · rw [xi_lt, iu (by omega), show (4 : Int32).toInt = 4 from rfl] at h2
      exact s73 i n hi0 (by omega) hn
    · rw [xi_lt, iu (by omega), show (4 : Int32).toInt = 4 from rfl] at h2
      have hst := step i 2 (by omega)
      have hnp := nbit_pos (x := i / 2 ^ 2) (by omega)
      refine RW.ps 1 rfl ?_
      rw [show Int32.ofInt (n : Int) + -2 = Int32.ofInt ((n - 2 : Nat) : Int) by rw [show (-2 : Int32) = Int32.ofInt (-2) by decide, ii_add]; congr 1; omega]
      refine RW.ps 4 rfl ?_
      rw [m_ushr (k := 2) rfl (by decide) (by omega)]
      exact s73 (i / 2 ^ 2) (n - 2) (by omega) (by omega) (by omega)
  have s48 : ∀ i n : Nat, 0 < i → i < 256 → n + nbit d = 31 + nbit i → n < 32 → RW (fun r' o' => r' = .inl (some (.int (Int32.ofInt ((32 - nbit d : Nat) : Int)))) ∧ o' = o) y_Int_numberOfLeadingZeros (xbk y_Int_numberOfLeadingZeros 48) [.int (Int32.ofInt (i : Int)), .int (Int32.ofInt (n : Int))] [] o := by
    intro i n hi0 hi hn hn2
    refine RW.ps 2 rfl ?_
    refine RW.icm (fun h2 => ?_) (fun h2 => ?_)
    · rw [xi_lt, iu (by omega), show (16 : Int32).toInt = 16 from rfl] at h2
      exact s61 i n hi0 (by omega) hn hn2
    · rw [xi_lt, iu (by omega), show (16 : Int32).toInt = 16 from rfl] at h2
      have hst := step i 4 (by omega)
      have hnp := nbit_pos (x := i / 2 ^ 4) (by omega)
      refine RW.ps 1 rfl ?_
      rw [show Int32.ofInt (n : Int) + -4 = Int32.ofInt ((n - 4 : Nat) : Int) by rw [show (-4 : Int32) = Int32.ofInt (-4) by decide, ii_add]; congr 1; omega]
      refine RW.ps 4 rfl ?_
      rw [m_ushr (k := 4) rfl (by decide) (by omega)]
      exact s61 (i / 2 ^ 4) (n - 4) (by omega) (by omega) (by omega) (by omega)
  have s33 : ∀ i n : Nat, 0 < i → i < 65536 → n + nbit d = 31 + nbit i → n < 32 → RW (fun r' o' => r' = .inl (some (.int (Int32.ofInt ((32 - nbit d : Nat) : Int)))) ∧ o' = o) y_Int_numberOfLeadingZeros (xbk y_Int_numberOfLeadingZeros 33) [.int (Int32.ofInt (i : Int)), .int (Int32.ofInt (n : Int))] [] o := by
    intro i n hi0 hi hn hn2
    refine RW.ps 2 rfl ?_
    refine RW.icm (fun h2 => ?_) (fun h2 => ?_)
    · rw [xi_lt, iu (by omega), show (256 : Int32).toInt = 256 from rfl] at h2
      exact s48 i n hi0 (by omega) hn hn2
    · rw [xi_lt, iu (by omega), show (256 : Int32).toInt = 256 from rfl] at h2
      have hst := step i 8 (by omega)
      have hnp := nbit_pos (x := i / 2 ^ 8) (by omega)
      refine RW.ps 1 rfl ?_
      rw [show Int32.ofInt (n : Int) + -8 = Int32.ofInt ((n - 8 : Nat) : Int) by rw [show (-8 : Int32) = Int32.ofInt (-8) by decide, ii_add]; congr 1; omega]
      refine RW.ps 4 rfl ?_
      rw [m_ushr (k := 8) rfl (by decide) (by omega)]
      exact s48 (i / 2 ^ 8) (n - 8) (by omega) (by omega) (by omega) (by omega)
  refine RW.ps 1 rfl ?_
  refine RW.ifc (fun _ => ?_) (fun h2 => ?_)
  · refine RW.ps 4 rfl ?_
    refine RW.icm (fun h2 => ?_) (fun h2 => ?_)
    · rw [xi_lt, iu (by omega), show (65536 : Int32).toInt = 65536 from rfl] at h2
      exact s33 d 31 h0 (by omega) rfl (by omega)
    · rw [xi_lt, iu (by omega), show (65536 : Int32).toInt = 65536 from rfl] at h2
      have hst := step d 16 (by omega)
      refine RW.ps 1 rfl ?_
      rw [show (31 : Int32) + -16 = Int32.ofInt ((15 : Nat) : Int) by decide]
      refine RW.ps 4 rfl ?_
      rw [m_ushr (k := 16) rfl (by decide) (by omega)]
      exact s33 (d / 2 ^ 16) 15 (by omega) (by omega) (by omega) (by omega)
  · rw [xi_gt, iu (by omega), i0] at h2; omega
theorem c_bitsOf {o : xO} {d : Nat} (h0 : 0 < d) (h1 : d < 2147483648) : Cp y_W_bitsOf [.int (Int32.ofInt (d : Int))] o (.int (Int32.ofInt (nbit d : Nat))) := by
  have hnb := nbit_le.mpr (show d < 2 ^ 31 from h1)
  refine RW.ps 2 rfl ?_
  refine RW.cp rfl rfl rfl rfl rfl (c_nlz h0 h1) ?_
  refine RW.ps 1 rfl ?_
  refine RW.re rfl rfl ⟨?_, rfl⟩
  rw [show (32 : Int32) = Int32.ofInt ((32 : Nat) : Int) by decide, ii_sub, show ((32 : Nat) : Int) - ((32 - nbit d : Nat) : Int) = (nbit d : Int) by omega]
theorem nbit_top {x n : Nat} (h : nl x = n + 1) : nbit x = n * 31 + nbit (dg x n) := by
  have h2 : x < 2147483648 ^ (n + 1) := nl_le.mp (by omega)
  have h3 : x / 2147483648 ^ n < 2147483648 := by
    rw [Nat.div_lt_iff_lt_mul (pow31_pos n), Nat.mul_comm, ← Nat.pow_succ]; exact h2
  have hd : dg x n = x / 2 ^ (31 * n) := by rw [← b31]; exact Nat.mod_eq_of_lt h3
  have ht := dg_top h
  rw [hd] at ht ⊢
  rw [nbit_div ht]; omega
theorem c_bits {o : xO} {r x : Nat} (hr : Rn o r x) : Cp y_Row_bits [.ref r] o (.int (Int32.ofInt (nbit x : Nat))) := by
  have hnx := big_nl hr.2.1
  refine RW.ps 1 rfl ?_
  refine RW.gf hr.1.1 hr.2.2.2 ?_
  refine RW.ifc (fun h1 => ?_) (fun h1 => ?_)
  · rw [xi_ne, iu (by omega), i0] at h1
    obtain ⟨n, hn⟩ : ∃ n, nl x = n + 1 := ⟨nl x - 1, by omega⟩
    have hi : (Int32.ofInt (nl x : Nat) - 1).toInt = (n : Int) := by rw [i_subnat (iu (by omega)) (by omega)]; omega
    have hd := dg_lt x n
    have ht := dg_top hn
    refine RW.ps 1 rfl ?_
    refine RW.gf hr.1.1 hr.2.2.2 ?_
    refine RW.ps 6 rfl ?_
    refine RW.gf hr.1.1 hr.2.2.2 ?_
    refine RW.ps 2 rfl ?_
    refine RW.cp rfl rfl (xrc_v rfl rfl hr.1.1) rfl rfl (c_dg hr.1 hi hr.2.1 (by rw [hr.2.2.1]; rfl)) ?_
    refine RW.ps 1 rfl ?_
    rw [ii_toInt32]
    refine RW.cp rfl rfl rfl rfl rfl (c_bitsOf (by omega) hd) ?_
    refine RW.ps 1 rfl ?_
    refine RW.re rfl rfl ⟨?_, rfl⟩
    rw [i_of hi, show (31 : Int32) = Int32.ofInt (31 : Int) by decide, ii_mul, ii_add, nbit_top hn]
    rfl
  · rw [xi_ne, iu (by omega), i0] at h1
    have h1 : x = 0 := nl_zero.mp (by omega)
    refine RW.ps 1 rfl ?_
    refine RW.go ?_
    exact RW.re rfl rfl ⟨by rw [h1]; rfl, rfl⟩
theorem c_becomeLong {o : xO} {r v n : Nat} (hr : Rn o r v) (hn : n < 2 ^ 64) : Cv y_Row_becomeLong [.ref r, .long (Int64.ofInt (n : Int))] o (fun o' => o' = sNum o r n) := by
  refine RW.ps 1 rfl ?_
  refine RW.cv rfl rfl (xrc_v rfl rfl hr.1.1) rfl rfl (c_clear hr) ?_
  intro o1 ho1
  subst ho1
  have hZ : n < 2147483648 ^ 3 := by omega
  have hnl := nl_le.mpr hZ
  have hBig : n < BIG := Nat.lt_of_lt_of_le hZ (Nat.pow_le_pow_right (by decide) (by decide))
  have e0 : dg n 0 = n % 2147483648 := by unfold dg; rw [Nat.pow_zero, Nat.div_one]
  have e1 : dg n 1 = n / 2 ^ 31 % 2147483648 := rfl
  have e2 : dg n 2 = n / 2 ^ 62 % 2147483648 := rfl
  refine RW.ps 3 rfl ?_
  refine RW.cv rfl rfl (xrc_v rfl rfl (IsRow.s hr.1).1) rfl rfl (c_put (k := 0) (f := mx n 0 0) (IsRow.s hr.1) rfl (by rw [mx_0]; exact sRow_i) sRow_f (by omega) (by decide)) ?_
  intro o1 ho1
  rw [sNum, sRow_s, mx_step (by rw [e0]; omega)] at ho1
  subst ho1
  refine RW.ps 5 rfl ?_
  rw [n_ushr (k := 31) rfl (by decide) hn]
  refine RW.cv rfl rfl (xrc_v rfl rfl (IsRow.s hr.1).1) rfl rfl (c_put (k := 1) (IsRow.s hr.1) rfl sRow_i sRow_f (by omega) (by decide)) ?_
  intro o1 ho1
  rw [sRow_s, mx_step (by rw [e1]; omega)] at ho1
  subst ho1
  refine RW.ps 5 rfl ?_
  rw [n_ushr (k := 62) rfl (by decide) hn]
  refine RW.cv rfl rfl (xrc_v rfl rfl (IsRow.s hr.1).1) rfl rfl (c_put (k := 2) (IsRow.s hr.1) rfl sRow_i sRow_f (by omega) (by decide)) ?_
  intro o1 ho1
  rw [sRow_s, mx_step (by rw [e2]; omega), mx_end (by decide +kernel) (by omega)] at ho1
  subst ho1
  refine RW.ps 1 rfl ?_
  refine RW.cv rfl rfl (xrc_v rfl rfl (IsRow.s hr.1).1) rfl rfl (c_trim hr.1 hBig (3 - nl n) _ ?_ (by decide)) ?_
  · show 3 = _; omega
  · intro o' ho'
    exact RW.re rfl rfl ⟨rfl, ho'⟩
