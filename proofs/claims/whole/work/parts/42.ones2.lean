/-! ONES: the methods. -/
theorem c_bitCount {o : xO} {d : Nat} (h : d < 2147483648) : Cp y_Int_bitCount [.int (Int32.ofInt (d : Int))] o (.int (Int32.ofInt ((pc 32 d : Nat) : Int))) := by
  obtain ⟨e1, e2, -, -⟩ := cnt_bytes (b0 := d % 256) (b1 := d / 256 % 256) (b2 := d / 65536 % 256) (b3 := d / 16777216) (by omega) (by omega) (by omega) (by omega) d (by omega)
  obtain ⟨e3, e4⟩ := cnt_pc (x := d) (by omega)
  have e5 : cnt1 d ≤ d := Nat.sub_le _ _
  refine RW.ps 4 rfl ?_
  refine RW.top (congrArg Value.int (m_ushr (n := d) (k := 1) rfl (by decide) (by omega))) ?_
  refine RW.ps 2 rfl ?_
  refine RW.top (congrArg Value.int ((show Int32.ofInt ((d / 2 ^ 1 : Nat) : Int) &&& 1431655765 = Int32.ofInt ((d / 2 &&& 1431655765 : Nat) : Int) from m_and (a := d / 2) (b := 1431655765) (by omega) (by decide)))) ?_
  refine RW.ps 1 rfl ?_
  refine RW.top (congrArg Value.int ((show Int32.ofInt (d : Int) - Int32.ofInt ((d / 2 &&& 1431655765 : Nat) : Int) = Int32.ofInt ((cnt1 d : Nat) : Int) by rw [ii_sub]; unfold cnt1; congr 1; omega))) ?_
  refine RW.ps 1 rfl ?_
  generalize cnt1 d = y at e2 e3 e4 e5
  refine RW.weak (lv0 := [.int (Int32.ofInt (y : Nat))]) ⟨Or.inr rfl, trivial⟩ ?_
  refine RW.sk [] rfl ?_
  have l1 : y &&& 858993459 ≤ 858993459 := Nat.and_le_right
  have l2 : y / 4 &&& 858993459 ≤ 858993459 := Nat.and_le_right
  refine RW.ps 3 rfl ?_
  refine RW.top (congrArg Value.int ((show Int32.ofInt (y : Int) &&& 858993459 = Int32.ofInt ((y &&& 858993459 : Nat) : Int) from m_and (a := y) (b := 858993459) (by omega) (by decide)))) ?_
  refine RW.ps 3 rfl ?_
  refine RW.top (congrArg Value.int (m_ushr (n := y) (k := 2) rfl (by decide) (by omega))) ?_
  refine RW.ps 2 rfl ?_
  refine RW.top (congrArg Value.int ((show Int32.ofInt ((y / 2 ^ 2 : Nat) : Int) &&& 858993459 = Int32.ofInt ((y / 4 &&& 858993459 : Nat) : Int) from m_and (a := y / 4) (b := 858993459) (by omega) (by decide)))) ?_
  refine RW.ps 1 rfl ?_
  refine RW.top (congrArg Value.int ((show Int32.ofInt ((y &&& 858993459 : Nat) : Int) + Int32.ofInt ((y / 4 &&& 858993459 : Nat) : Int) = Int32.ofInt ((cnt2 y : Nat) : Int) by rw [ii_add]; unfold cnt2; congr 1))) ?_
  refine RW.ps 1 rfl ?_
  generalize cnt2 y = z at e2 e3 e4
  refine RW.weak (lv0 := [.int (Int32.ofInt (z : Nat))]) ⟨Or.inr rfl, trivial⟩ ?_
  refine RW.sk [] rfl ?_
  refine RW.ps 4 rfl ?_
  refine RW.top (congrArg Value.int (m_ushr (n := z) (k := 4) rfl (by decide) (by omega))) ?_
  refine RW.ps 1 rfl ?_
  refine RW.top (congrArg Value.int ((show Int32.ofInt (z : Int) + Int32.ofInt ((z / 2 ^ 4 : Nat) : Int) = Int32.ofInt ((z + z / 16 : Nat) : Int) by rw [ii_add]; rfl))) ?_
  refine RW.ps 2 rfl ?_
  refine RW.top (congrArg Value.int ((show Int32.ofInt ((z + z / 16 : Nat) : Int) &&& 252645135 = Int32.ofInt ((cnt3 z : Nat) : Int) from m_and (a := z + z / 16) (b := 252645135) (by omega) (by decide)))) ?_
  refine RW.ps 1 rfl ?_
  generalize cnt3 z = w at e3 e4
  refine RW.weak (lv0 := [.int (Int32.ofInt (w : Nat))]) ⟨Or.inr rfl, trivial⟩ ?_
  refine RW.sk [] rfl ?_
  refine RW.ps 4 rfl ?_
  refine RW.top (congrArg Value.int (m_ushr (n := w) (k := 8) rfl (by decide) (by omega))) ?_
  refine RW.ps 1 rfl ?_
  refine RW.top (congrArg Value.int ((show Int32.ofInt (w : Int) + Int32.ofInt ((w / 2 ^ 8 : Nat) : Int) = Int32.ofInt ((w + w / 256 : Nat) : Int) by rw [ii_add]; rfl))) ?_
  refine RW.ps 1 rfl ?_
  refine RW.weak (lv0 := [.int (Int32.ofInt ((w + w / 256 : Nat) : Int))]) ⟨Or.inr rfl, trivial⟩ ?_
  refine RW.sk [] rfl ?_
  refine RW.ps 4 rfl ?_
  refine RW.top (congrArg Value.int (m_ushr (n := w + w / 256) (k := 16) rfl (by decide) (by omega))) ?_
  refine RW.ps 1 rfl ?_
  refine RW.top (congrArg Value.int ((show Int32.ofInt ((w + w / 256 : Nat) : Int) + Int32.ofInt (((w + w / 256) / 2 ^ 16 : Nat) : Int) = Int32.ofInt ((cnt4 w : Nat) : Int) by rw [ii_add]; rfl))) ?_
  refine RW.ps 1 rfl ?_
  refine RW.weak (lv0 := [.int (Int32.ofInt ((cnt4 w : Nat) : Int))]) ⟨Or.inr rfl, trivial⟩ ?_
  refine RW.sk [] rfl ?_
  refine RW.ps 2 rfl ?_
  have hl : cnt4 w < 4294967296 := by unfold cnt4; omega
  refine RW.ps 1 rfl ?_
  refine RW.top (congrArg Value.int ((show Int32.ofInt ((cnt4 w : Nat) : Int) &&& 63 = Int32.ofInt ((pc 32 d : Nat) : Int) by rw [← e3, ← and_63]; exact m_and (a := cnt4 w) (b := 63) hl (by decide)))) ?_
  exact RW.re rfl rfl ⟨rfl, rfl⟩
/-- in a row -/
theorem pc_row (x : Nat) : ∀ k, pc (31 * k) x = pc (31 * k) (x % 2147483648 ^ k) := by
  intro k
  rw [b31, pc_mod]
theorem pc_dg (x k : Nat) : pc (31 * (k + 1)) x = pc (31 * k) x + pc 32 (dg x k) := by
  rw [show 31 * (k + 1) = 31 * k + 31 by omega, pc_add, ← b31]
  unfold dg
  generalize x / 2147483648 ^ k = q
  have h1 : pc 31 (q % 2147483648) = pc 31 q := pc_mod 31 q
  rw [show (32 : Nat) = 31 + 1 from rfl, pc_add, h1, Nat.div_eq_of_lt (Nat.mod_lt _ (by decide)), pc_0, Nat.add_zero]
theorem c_countOnes {o : xO} {r x : Nat} (hr : Rn o r x) : Cp y_Row_countOnes [.ref r] o (.int (Int32.ofInt ((pc (31 * nl x) x : Nat) : Int))) := by
  have hnx := big_nl hr.2.1
  have loop : ∀ n k (iw cw : Int32), k + n = nl x → iw.toInt = (k : Int) → cw = Int32.ofInt ((pc (31 * k) x : Nat) : Int) → RW (fun r' o' => r' = .inl (some (.int (Int32.ofInt ((pc (31 * nl x) x : Nat) : Int)))) ∧ o' = o) y_Row_countOnes (xbk y_Row_countOnes 4) [.ref r, .int cw, .int iw] [] o := by
    intro n
    induction n with
    | zero =>
      intro k iw cw hk hi hc
      subst hc
      refine RW.ps 2 rfl ?_
      refine RW.gf hr.1.1 hr.2.2.2 ?_
      refine RW.icm (fun _ => ?_) (fun h1 => ?_)
      · refine RW.ps 1 rfl ?_
        have hk' : k = nl x := by omega
        subst hk'
        exact RW.re rfl rfl ⟨rfl, rfl⟩
      · rw [xi_ge, hi, iu (by omega)] at h1; omega
    | succ n ih =>
      intro k iw cw hk hi hc
      subst hc
      have hd := dg_lt x k
      refine RW.ps 2 rfl ?_
      refine RW.gf hr.1.1 hr.2.2.2 ?_
      refine RW.icm (fun h1 => ?_) (fun _ => ?_)
      · rw [xi_ge, hi, iu (by omega)] at h1; omega
      refine RW.ps 3 rfl ?_
      refine RW.cp rfl rfl (xrc_v rfl rfl hr.1.1) rfl rfl (c_dg hr.1 hi hr.2.1 (by rw [hr.2.2.1]; rfl)) ?_
      refine RW.ps 1 rfl ?_
      refine RW.top (congrArg Value.int (ii_toInt32 (dg x k : Nat))) ?_
      refine RW.cp rfl rfl rfl rfl rfl (c_bitCount hd) ?_
      refine RW.ps 1 rfl ?_
      refine RW.top (congrArg Value.int ((show Int32.ofInt ((pc (31 * k) x : Nat) : Int) + Int32.ofInt ((pc 32 (dg x k) : Nat) : Int) = Int32.ofInt ((pc (31 * (k + 1)) x : Nat) : Int) by rw [ii_add, pc_dg]; congr 1))) ?_
      refine RW.ps 2 rfl ?_
      refine RW.go ?_
      exact ih (k + 1) (iw + 1) _ (by omega) (i_succ hi (by omega)) rfl
  refine RW.ps 4 rfl ?_
  exact loop (nl x) 0 0 0 (Nat.zero_add _) rfl rfl
