/-! THE REFERENCE: bitsOf, bitOf, compareRows, addTo, takeFrom. -/
theorem bit_of16 {x W b n : Nat} (hn : n = 16 * W + b) (hb : b < 16) : d16 x W / 2 ^ b % 2 = x / 2 ^ n % 2 := by
  obtain ⟨c, hc⟩ : ∃ c, 16 = b + (c + 1) := ⟨16 - b - 1, by omega⟩
  have e : 65536 = 2 ^ b * (2 * 2 ^ c) := by rw [← Nat.pow_succ', ← Nat.pow_add, ← hc]
  have hp : 0 < 2 ^ b := Nat.two_pow_pos b
  have e1 : x / 2 ^ n = x / 65536 ^ W / 2 ^ b := by rw [Nat.div_div_eq_div_mul, hn, Nat.pow_add, b16]
  rw [e1]
  unfold d16
  generalize x / 65536 ^ W = q
  have h1 := Nat.div_add_mod q 65536
  generalize q % 65536 = r at h1
  generalize q / 65536 = m at h1
  rw [← h1, e, Nat.mul_assoc, Nat.mul_add_div hp, Nat.mul_assoc, Nat.mul_add_mod]
theorem is1m (n : Nat) : Int32.ofInt ((n + 1 : Nat) : Int) + (-1) = Int32.ofInt (n : Int) := by rw [show (-1 : Int32) = Int32.ofInt (-1) by decide, ii_add]; congr 1; omega
theorem i16n : (16 : Int32) = Int32.ofInt ((16 : Nat) : Int) := by decide
theorem nbit_at {x m : Nat} (h : x / 2 ^ m % 2 = 1) : m < nbit x := by
  rcases Nat.lt_or_ge m (nbit x) with h1 | h1
  · exact h1
  · rw [Nat.div_eq_of_lt (nbit_le.mp h1)] at h; cases h
theorem nbit_not {x m : Nat} (h : nbit x ≤ m + 1) (h0 : x / 2 ^ m % 2 = 0) : nbit x ≤ m := by
  have h1 := nbit_le.mp h
  rw [Nat.pow_succ] at h1
  apply nbit_le.mpr
  have h2 : x / 2 ^ m < 2 := by rw [Nat.div_lt_iff_lt_mul (Nat.two_pow_pos m)]; omega
  have h4 : x / 2 ^ m = 0 := by
    generalize x / 2 ^ m = q at *
    omega
  rcases Nat.div_eq_zero_iff.mp h4 with h3 | h3
  · have := Nat.two_pow_pos m; omega
  · exact h3
section M3
variable {o : xO} {a b L Lb n m x y : Nat}
theorem c_bitsOf16 (h : Mu o a L n x) (hL : L ≤ 9000) : Cp y_M_bitsOf [.ref a] o (.int (Int32.ofInt (nbit x : Nat))) := by
  have hnL := h.2.1
  have hx : nbit x ≤ 16 * n := nbit_le.mpr (by rw [← b16]; exact h.2.2.1)
  have loop : ∀ m, m ≤ 16 * n → nbit x ≤ m → RW (fun r o' => r = .inl (some (.int (Int32.ofInt (nbit x : Nat)))) ∧ o' = o) y_M_bitsOf (xbk y_M_bitsOf 7) [.ref a, .int (Int32.ofInt (m : Nat))] [] o := by
    intro m
    induction m with
    | zero =>
      intro _ hb
      refine RW.ps 1 rfl ?_
      refine RW.ifc (fun _ => ?_) (fun k => absurd (xi_le.mpr (by decide)) k)
      refine RW.ps 1 rfl ?_
      rw [show nbit x = 0 by omega]
      exact RW.re rfl rfl ⟨rfl, rfl⟩
    | succ m ih =>
      intro hm hb
      have hd := d16_lt x (m / 16)
      have hbit := bit_of16 (x := x) (n := m) (W := m / 16) (b := m % 16) (by omega) (by omega)
      refine RW.ps 1 rfl ?_
      refine RW.ifc (fun k => ?_) (fun _ => ?_)
      · rw [xi_le, iu (by omega), i0] at k; omega
      refine RW.ps 4 rfl ?_
      refine RW.top (congrArg Value.int (is1' m)) ?_
      refine RW.ps 1 rfl ?_
      refine RW.idv (by decide) ?_
      refine RW.top (congrArg Value.int ((show Int32.ofInt (m : Nat) / 16 = Int32.ofInt ((m / 16 : Nat) : Int) by rw [i16n]; exact i_div (by omega) (by decide)))) ?_
      refine RW.ps 2 rfl ?_
      refine RW.ia h.1 (i_succ (iu (u := m / 16) (by omega)) (by omega)) (by omega) ?_
      rw [h.2.2.2.2 (m / 16) (by omega)]
      refine RW.ps 3 rfl ?_
      refine RW.top (congrArg Value.int (is1' m)) ?_
      refine RW.ps 1 rfl ?_
      refine RW.irm (by decide) ?_
      refine RW.top (congrArg Value.int ((show Int32.ofInt (m : Nat) - Int32.ofInt (m : Nat) / 16 * 16 = Int32.ofInt ((m % 16 : Nat) : Int) by rw [i16n]; exact i_rem (by omega) (by decide)))) ?_
      refine RW.ps 1 rfl ?_
      refine RW.top (congrArg Value.int (m_shr (n := d16 x (m / 16)) (k := m % 16) (iu (u := m % 16) (by omega)) (by omega) (by omega))) ?_
      have hd2 : d16 x (m / 16) / 2 ^ (m % 16) ≤ d16 x (m / 16) := Nat.div_le_self _ _
      refine RW.ps 2 rfl ?_
      refine RW.top (congrArg Value.int (m_and1 (a := d16 x (m / 16) / 2 ^ (m % 16)) (by omega))) ?_
      rw [hbit]
      refine RW.ifc (fun k => ?_) (fun k => ?_)
      · rw [xi_ne, iu (by omega), i0] at k
        have := nbit_at (x := x) (m := m) (by omega)
        refine RW.ps 1 rfl ?_
        rw [show nbit x = m + 1 by omega]
        exact RW.re rfl rfl ⟨rfl, rfl⟩
      · rw [xi_ne, iu (by omega), i0] at k
        refine RW.ps 1 rfl ?_
        refine RW.go ?_
        refine RW.weak (lv0 := [.ref a, .int (Int32.ofInt (m : Nat))]) ⟨Or.inr rfl, Or.inr (congrArg Value.int (is1m m).symm), trivial⟩ ?_
        refine RW.sk [] rfl ?_
        exact ih (by omega) (nbit_not hb (by omega))
  refine RW.ps 3 rfl ?_
  refine RW.ia h.1 i0n (by omega) ?_
  rw [h.2.2.2.1]
  refine RW.ps 2 rfl ?_
  refine RW.weak (lv0 := [.ref a, .int (Int32.ofInt ((16 * n : Nat) : Int))]) ⟨Or.inr rfl, Or.inr (congrArg Value.int (by rw [i16n, ii_mul]; rfl)), trivial⟩ ?_
  refine RW.sk [] rfl ?_
  exact loop (16 * n) (Nat.le_refl _) hx
theorem c_bitOf16 {i : Nat} {iw : Int32} (h : Mu o a L n x) (hL : L ≤ 9000) (hi : iw.toInt = (i : Int)) : Cp y_M_bitOf [.ref a, .int iw] o (.int (sg (decide (x / 2 ^ i % 2 = 1)))) := by
  have hib : (i : Int) < 2147483648 := by have := iw.toInt_lt; omega
  have hiw := i_of hi
  have hd := d16_lt x (i / 16)
  have hbit := bit_of16 (x := x) (n := i) (W := i / 16) (b := i % 16) (by omega) (by omega)
  refine RW.ps 3 rfl ?_
  refine RW.idv (by decide) ?_
  refine RW.top (congrArg Value.int ((show iw / 16 = Int32.ofInt ((i / 16 : Nat) : Int) by rw [hiw, i16n]; exact i_div (by omega) (by decide)))) ?_
  refine RW.cp rfl rfl rfl rfl rfl (c_mpart h hL (iu (u := i / 16) (by omega))) ?_
  refine RW.ps 2 rfl ?_
  refine RW.irm (by decide) ?_
  refine RW.top (congrArg Value.int ((show iw - iw / 16 * 16 = Int32.ofInt ((i % 16 : Nat) : Int) by rw [hiw, i16n]; exact i_rem (by omega) (by decide)))) ?_
  refine RW.ps 1 rfl ?_
  refine RW.top (congrArg Value.int (m_shr (n := d16 x (i / 16)) (k := i % 16) (iu (u := i % 16) (by omega)) (by omega) (by omega))) ?_
  have hd2 : d16 x (i / 16) / 2 ^ (i % 16) ≤ d16 x (i / 16) := Nat.div_le_self _ _
  refine RW.ps 2 rfl ?_
  refine RW.top (congrArg Value.int (m_and1 (a := d16 x (i / 16) / 2 ^ (i % 16)) (by omega))) ?_
  rw [hbit]
  refine RW.ps 1 rfl ?_
  refine RW.icm (fun k => ?_) (fun k => ?_)
  · rw [xi_ne, iu (by omega), show (1 : Int32).toInt = 1 from rfl] at k
    refine RW.ps 1 rfl ?_
    rw [decide_eq_false (by omega)]
    exact RW.re rfl rfl ⟨rfl, rfl⟩
  · rw [xi_ne, iu (by omega), show (1 : Int32).toInt = 1 from rfl] at k
    refine RW.ps 1 rfl ?_
    refine RW.go ?_
    rw [decide_eq_true (by omega)]
    exact RW.re rfl rfl ⟨rfl, rfl⟩
theorem c_compareRows (ha : Mn o a L x) (hb : Mn o b Lb y) (hL : L ≤ 9000) (hLb : Lb ≤ 9000) : Cp y_M_compareRows [.ref a, .ref b] o (.int (cmpI x y)) := by
  have haL := ha.2.1
  have hbL := hb.2.1
  refine RW.ps 2 rfl ?_
  refine RW.ia ha.1 i0n (by omega) ?_
  rw [ha.2.2.2.1]
  refine RW.ps 2 rfl ?_
  refine RW.ia hb.1 i0n (by omega) ?_
  rw [hb.2.2.2.1]
  refine RW.icm (fun k => ?_) (fun k => ?_)
  · rw [xi_eq, iu (by omega), iu (by omega)] at k
    have hxy : n16 x = n16 y := by omega
    have loop : ∀ m, m ≤ n16 x → x / 65536 ^ m = y / 65536 ^ m → RW (fun r o' => r = .inl (some (.int (cmpI x y))) ∧ o' = o) y_M_compareRows (xbk y_M_compareRows 28) [.ref a, .ref b, .int (Int32.ofInt (m : Nat))] [] o := by
      intro m
      induction m with
      | zero =>
        intro _ he
        rw [Nat.pow_zero, Nat.div_one, Nat.div_one] at he
        refine RW.ps 1 rfl ?_
        refine RW.ifc (fun _ => ?_) (fun k => absurd (xi_le.mpr (by decide)) k)
        refine RW.ps 1 rfl ?_
        refine RW.ifc (fun k => absurd rfl (xi_ne.mp k)) (fun _ => ?_)
        refine RW.ps 1 rfl ?_
        refine RW.go ?_
        rw [he, cmpI_eq]
        exact RW.re rfl rfl ⟨rfl, rfl⟩
      | succ m ih =>
        intro hm he
        have hdx := d16_lt x m
        have hdy := d16_lt y m
        refine RW.ps 1 rfl ?_
        refine RW.ifc (fun k => ?_) (fun _ => ?_)
        · rw [xi_le, iu (by omega), i0] at k; omega
        refine RW.ps 2 rfl ?_
        refine RW.ia ha.1 (iu (u := m + 1) (by omega)) (by omega) ?_
        rw [ha.2.2.2.2 m (by omega)]
        refine RW.ps 2 rfl ?_
        refine RW.ia hb.1 (iu (u := m + 1) (by omega)) (by omega) ?_
        rw [hb.2.2.2.2 m (by omega)]
        refine RW.icm (fun k => ?_) (fun k => ?_)
        · rw [xi_ne, iu (by omega), iu (by omega)] at k
          refine RW.ps 1 rfl ?_
          refine RW.ifc (fun _ => ?_) (fun k2 => ?_)
          rotate_left
          · rw [xi_ne, iu (by omega), i0] at k2; omega
          refine RW.ps 2 rfl ?_
          refine RW.ia ha.1 (iu (u := m + 1) (by omega)) (by omega) ?_
          rw [ha.2.2.2.2 m (by omega)]
          refine RW.ps 2 rfl ?_
          refine RW.ia hb.1 (iu (u := m + 1) (by omega)) (by omega) ?_
          rw [hb.2.2.2.2 m (by omega)]
          refine RW.icm (fun k2 => ?_) (fun k2 => ?_)
          · rw [xi_ge, iu (by omega), iu (by omega)] at k2
            refine RW.ps 1 rfl ?_
            rw [cmpI_gt (d16_less he.symm (by omega))]
            exact RW.re rfl rfl ⟨rfl, rfl⟩
          · rw [xi_ge, iu (by omega), iu (by omega)] at k2
            refine RW.ps 1 rfl ?_
            refine RW.go ?_
            rw [cmpI_lt (d16_less he (by omega))]
            exact RW.re rfl rfl ⟨rfl, rfl⟩
        · rw [xi_ne, iu (by omega), iu (by omega)] at k
          refine RW.ps 1 rfl ?_
          refine RW.go ?_
          refine RW.weak (lv0 := [.ref a, .ref b, .int (Int32.ofInt (m : Nat))]) ⟨Or.inr rfl, Or.inr rfl, Or.inr (congrArg Value.int (is1m m).symm), trivial⟩ ?_
          refine RW.sk [] rfl ?_
          refine ih (by omega) ?_
          rw [d16_up x m, d16_up y m, he]
          omega
    refine RW.ps 2 rfl ?_
    refine RW.ia ha.1 i0n (by omega) ?_
    rw [ha.2.2.2.1]
    refine RW.ps 1 rfl ?_
    refine RW.weak (lv0 := [.ref a, .ref b, .int (Int32.ofInt (n16 x : Nat))]) ⟨Or.inr rfl, Or.inr rfl, Or.inr rfl, trivial⟩ ?_
    refine RW.sk [] rfl ?_
    refine loop _ (Nat.le_refl _) ?_
    rw [Nat.div_eq_of_lt ha.2.2.1, hxy, Nat.div_eq_of_lt hb.2.2.1]
  · rw [xi_eq, iu (by omega), iu (by omega)] at k
    refine RW.ps 2 rfl ?_
    refine RW.ia ha.1 i0n (by omega) ?_
    rw [ha.2.2.2.1]
    refine RW.ps 2 rfl ?_
    refine RW.ia hb.1 i0n (by omega) ?_
    rw [hb.2.2.2.1]
    refine RW.icm (fun k2 => ?_) (fun k2 => ?_)
    · rw [xi_ge, iu (by omega), iu (by omega)] at k2
      refine RW.ps 1 rfl ?_
      rw [cmpI_gt (n16_less (by omega))]
      exact RW.re rfl rfl ⟨rfl, rfl⟩
    · rw [xi_ge, iu (by omega), iu (by omega)] at k2
      refine RW.ps 1 rfl ?_
      refine RW.go ?_
      rw [cmpI_lt (n16_less (by omega))]
      exact RW.re rfl rfl ⟨rfl, rfl⟩
theorem add_dig (x y k : Nat) : (((x % 65536 ^ k + y % 65536 ^ k) / 65536 ^ k) + (d16 x k + d16 y k)) % 65536 = d16 (x + y) k ∧ (((x % 65536 ^ k + y % 65536 ^ k) / 65536 ^ k) + (d16 x k + d16 y k)) / 65536 = (x % 65536 ^ (k + 1) + y % 65536 ^ (k + 1)) / 65536 ^ (k + 1) := by
  refine carry_nat16 (Z := x + y) ?_ ⟨x / 65536 ^ (k + 1) + y / 65536 ^ (k + 1), ?_⟩
  · rw [d16_step, d16_step, Nat.add_mul]; omega
  · have e1 := Nat.mod_add_div x (65536 ^ (k + 1))
    have e2 := Nat.mod_add_div y (65536 ^ (k + 1))
    rw [Nat.add_mul, Nat.mul_comm (x / _), Nat.mul_comm (y / _)]
    omega
theorem add_carry (x y k : Nat) : (x % 65536 ^ k + y % 65536 ^ k) / 65536 ^ k ≤ 1 := by
  have h := pow16_pos k
  have h1 := Nat.mod_lt x h
  have h2 := Nat.mod_lt y h
  have : (x % 65536 ^ k + y % 65536 ^ k) / 65536 ^ k < 2 := by rw [Nat.div_lt_iff_lt_mul h]; omega
  omega
theorem c_addTo (ha : Mn o a L x) (hb : Mn o b Lb y) (hL : L ≤ 9000) (hLb : Lb ≤ 9000) (hab : a ≠ b) (hn : max (n16 x) (n16 y) + 1 < L) : Cv y_M_addTo [.ref a, .ref b] o (fun o' => Fr [(a, 1)] o o' ∧ Mn o' a L (x + y)) := by
  have haL := ha.2.1
  have hbL := hb.2.1
  generalize hN : max (n16 x) (n16 y) = N at *
  have hxN : x < 65536 ^ N := n16_le.mp (by omega)
  have hyN : y < 65536 ^ N := n16_le.mp (by omega)
  have loop : ∀ q k (iw : Int32) w, k + q = N → iw.toInt = (k : Int) → Fr [(a, 1)] o w → Md w a L (n16 x) k (x + y) x → RW (fun r o' => r = .inl none ∧ (Fr [(a, 1)] o o' ∧ Mn o' a L (x + y))) y_M_addTo (xbk y_M_addTo 24) [.ref a, .ref b, .int (Int32.ofInt (N : Nat)), .int (Int32.ofInt (((x % 65536 ^ k + y % 65536 ^ k) / 65536 ^ k : Nat) : Int)), .int iw, xj] [] w := by
    intro q
    induction q with
    | zero =>
      intro k iw w hk hi hf hm
      have hkN : k = N := by omega
      subst hkN
      refine RW.ps 2 rfl ?_
      refine RW.icm (fun _ => ?_) (fun k2 => ?_)
      · refine RW.ps 5 rfl ?_
        have e1 : (x % 65536 ^ k + y % 65536 ^ k) / 65536 ^ k = d16 (x + y) k := by
          rw [Nat.mod_eq_of_lt hxN, Nat.mod_eq_of_lt hyN]
          unfold d16
          rw [Nat.mod_eq_of_lt]
          rw [Nat.div_lt_iff_lt_mul (pow16_pos k)]; omega
        rw [e1]
        refine RW.ist hm.1 (i_succ (iu (u := k) (by omega)) (by omega)) (by omega) ?_
        have m2 := hm.up
        refine RW.ps 5 rfl ?_
        refine RW.top (congrArg Value.int (is1 k)) ?_
        refine RW.ist m2.1 i0n (by omega) ?_
        have m3 := m2.len (by omega) (by rw [Nat.pow_succ]; omega)
        refine RW.ps 1 rfl ?_
        refine RW.cv rfl rfl rfl rfl rfl (c_cutn m3 hL) ?_
        intro o2 ⟨f2, r2⟩
        exact RW.re rfl rfl ⟨rfl, hf.pi1.pi1.trans f2, r2⟩
      · rw [xi_ge, iu (by omega), hi] at k2; omega
    | succ q ih =>
      intro k iw w hk hi hf hm
      have dx := d16_lt x k
      have dy := d16_lt y k
      have hc := add_carry x y k
      obtain ⟨s1, s2⟩ := add_dig x y k
      have hb' := hb.fr1 hf (by omega)
      refine RW.ps 2 rfl ?_
      refine RW.icm (fun k2 => ?_) (fun _ => ?_)
      · rw [xi_ge, iu (by omega), hi] at k2; omega
      refine RW.ps 2 rfl ?_
      refine RW.cp rfl rfl rfl rfl rfl (c_part0 (v := d16 x k) hm.1 hm.2.2.1 hm.2.1 hL hi (fun h => hm.2.2.2.2 k (Nat.le_refl _) h) (fun h => d16_zero' h)) ?_
      refine RW.ps 2 rfl ?_
      refine RW.cp rfl rfl rfl rfl rfl (c_mpart hb' hLb hi) ?_
      generalize (x % 65536 ^ k + y % 65536 ^ k) / 65536 ^ k = c at *
      refine RW.ps 3 rfl ?_
      refine RW.top (congrArg Value.int ((show Int32.ofInt (d16 x k : Nat) + Int32.ofInt (d16 y k : Nat) + Int32.ofInt (c : Nat) = Int32.ofInt ((c + (d16 x k + d16 y k) : Nat) : Int) by rw [ii_add, ii_add]; congr 1; omega))) ?_
      refine RW.ps 8 rfl ?_
      refine RW.weak (lv0 := [.ref a, .ref b, .int (Int32.ofInt (N : Nat)), .int (Int32.ofInt (c : Nat)), .int iw, .int (Int32.ofInt ((c + (d16 x k + d16 y k) : Nat) : Int))]) ⟨Or.inr rfl, Or.inr rfl, Or.inr rfl, Or.inr rfl, Or.inr rfl, Or.inr rfl, trivial⟩ ?_
      refine RW.sk [.int (Int32.ofInt ((c + (d16 x k + d16 y k) : Nat) : Int) &&& 65535), .int (iw + 1), .ref a] rfl ?_
      refine RW.top (congrArg Value.int ((show Int32.ofInt ((c + (d16 x k + d16 y k) : Nat) : Int) &&& 65535 = Int32.ofInt (d16 (x + y) k : Nat) by rw [ii_mask, ← s1]; rfl))) ?_
      refine RW.ist hm.1 (i_succ hi (by omega)) (by omega) ?_
      have m2 := hm.up
      refine RW.ps 5 rfl ?_
      refine RW.go ?_
      refine RW.weak (lv0 := [.ref a, .ref b, .int (Int32.ofInt (N : Nat)), .int (Int32.ofInt ((((c + (d16 x k + d16 y k)) / 65536 : Nat)) : Int)), .int (iw + 1), xj]) ⟨Or.inr rfl, Or.inr rfl, Or.inr rfl, Or.inr (congrArg Value.int (m_shr (k := 16) (y := 16) rfl (by decide) (by omega)).symm), Or.inr rfl, Or.inl rfl, trivial⟩ ?_
      refine RW.sk [] rfl ?_
      rw [s2]
      exact ih (k + 1) (iw + 1) _ (by omega) (i_succ hi (by omega)) hf.pi1 m2
  have h18 : RW (fun r o' => r = .inl none ∧ (Fr [(a, 1)] o o' ∧ Mn o' a L (x + y))) y_M_addTo (xbk y_M_addTo 18) [.ref a, .ref b, xj, xj, xj, xj] [.int (Int32.ofInt (N : Nat))] o := by
    refine RW.ps 5 rfl ?_
    refine RW.weak (lv0 := [.ref a, .ref b, .int (Int32.ofInt (N : Nat)), .int 0, .int 0, xj]) ⟨Or.inr rfl, Or.inr rfl, Or.inr rfl, Or.inr rfl, Or.inr rfl, Or.inl rfl, trivial⟩ ?_
    refine RW.sk [] rfl ?_
    have h0 := loop N 0 0 o (Nat.zero_add _) rfl (Fr.refl _ _) (Mu.md0 ha _)
    rw [Nat.pow_zero, Nat.mod_one, Nat.mod_one] at h0
    exact h0
  refine RW.ps 2 rfl ?_
  refine RW.ia ha.1 i0n (by omega) ?_
  rw [ha.2.2.2.1]
  refine RW.ps 2 rfl ?_
  refine RW.ia hb.1 i0n (by omega) ?_
  rw [hb.2.2.2.1]
  refine RW.icm (fun k => ?_) (fun k => ?_)
  · rw [xi_le, iu (by omega), iu (by omega)] at k
    refine RW.ps 2 rfl ?_
    refine RW.ia hb.1 i0n (by omega) ?_
    rw [hb.2.2.2.1, show n16 y = N by omega]
    exact h18
  · rw [xi_le, iu (by omega), iu (by omega)] at k
    refine RW.ps 2 rfl ?_
    refine RW.ia ha.1 i0n (by omega) ?_
    rw [ha.2.2.2.1, show n16 x = N by omega]
    refine RW.go ?_
    exact h18
theorem take_dig {x y : Nat} (h : y ≤ x) (k : Nat) : (((x % 65536 ^ k : Nat) : Int) - ((y % 65536 ^ k : Nat) : Int)) / (65536 : Int) ^ k + ((d16 x k : Int) - (d16 y k : Int)) = (((x % 65536 ^ k : Nat) : Int) - ((y % 65536 ^ k : Nat) : Int)) / (65536 : Int) ^ k + ((d16 x k : Int) - (d16 y k : Int)) ∧
    ((((x % 65536 ^ k : Nat) : Int) - ((y % 65536 ^ k : Nat) : Int)) / (65536 : Int) ^ k + ((d16 x k : Int) - (d16 y k : Int))) % 65536 = (d16 (x - y) k : Int) ∧ ((((x % 65536 ^ k : Nat) : Int) - ((y % 65536 ^ k : Nat) : Int)) / (65536 : Int) ^ k + ((d16 x k : Int) - (d16 y k : Int))) / 65536 = (((x % 65536 ^ (k + 1) : Nat) : Int) - ((y % 65536 ^ (k + 1) : Nat) : Int)) / (65536 : Int) ^ (k + 1) := by
  refine ⟨rfl, carry_int16 (Z := x - y) (m := ((x / 65536 ^ (k + 1) : Nat) : Int) - ((y / 65536 ^ (k + 1) : Nat) : Int)) ?_ ?_⟩
  · rw [d16_step, d16_step, Int.natCast_add, Int.natCast_add, Int.natCast_mul, Int.natCast_mul, pow_int16, Int.sub_mul]; omega
  · have e1 := Nat.mod_add_div x (65536 ^ (k + 1))
    have e2 := Nat.mod_add_div y (65536 ^ (k + 1))
    rw [Int.sub_mul, ← pow_int16, ← Int.natCast_mul, ← Int.natCast_mul, Nat.mul_comm (x / _), Nat.mul_comm (y / _)]
    omega
theorem take_borrow (x y k : Nat) : -1 ≤ (((x % 65536 ^ k : Nat) : Int) - ((y % 65536 ^ k : Nat) : Int)) / (65536 : Int) ^ k ∧ (((x % 65536 ^ k : Nat) : Int) - ((y % 65536 ^ k : Nat) : Int)) / (65536 : Int) ^ k ≤ 0 := by
  have h := pow16_pos k
  have h1 := Nat.mod_lt x h
  have h2 := Nat.mod_lt y h
  rw [← pow_int16]
  generalize 65536 ^ k = P at *
  constructor
  · exact Int.le_ediv_of_mul_le (by omega) (by omega)
  · exact Int.le_of_lt_add_one (Int.ediv_lt_of_lt_mul (by omega) (by omega))
theorem c_takeFrom (ha : Mu o a L n x) (hb : Mu o b Lb m y) (hL : L ≤ 9000) (hLb : Lb ≤ 9000) (hab : a ≠ b) (hyx : y ≤ x) : Cv y_M_takeFrom [.ref a, .ref b] o (fun o' => Fr [(a, 1)] o o' ∧ Mn o' a L (x - y)) := by
  have haL := ha.2.1
  have loop : ∀ q k (iw : Int32) w (bo : Int), k + q = n → iw.toInt = (k : Int) → bo = (((x % 65536 ^ k : Nat) : Int) - ((y % 65536 ^ k : Nat) : Int)) / (65536 : Int) ^ k → Fr [(a, 1)] o w → Md w a L n k (x - y) x → RW (fun r o' => r = .inl none ∧ (Fr [(a, 1)] o o' ∧ Mn o' a L (x - y))) y_M_takeFrom (xbk y_M_takeFrom 4) [.ref a, .ref b, .int (Int32.ofInt (-bo)), .int iw, xj] [] w := by
    intro q
    induction q with
    | zero =>
      intro k iw w bo hk hi hbo hf hm
      have hkn : k = n := by omega
      subst hkn
      refine RW.ps 3 rfl ?_
      refine RW.ia hm.1 i0n (by omega) ?_
      rw [hm.2.2.1]
      refine RW.icm (fun _ => ?_) (fun k2 => ?_)
      · have m2 := hm.mu (Nat.lt_of_le_of_lt (Nat.sub_le _ _) ha.2.2.1)
        refine RW.ps 1 rfl ?_
        refine RW.cv rfl rfl rfl rfl rfl (c_cutn m2 hL) ?_
        intro o2 ⟨f2, r2⟩
        exact RW.re rfl rfl ⟨rfl, hf.trans f2, r2⟩
      · rw [xi_ge, iu (by omega), hi] at k2; omega
    | succ q ih =>
      intro k iw w bo hk hi hbo hf hm
      have dx := d16_lt x k
      have dy := d16_lt y k
      have hc := take_borrow x y k
      obtain ⟨-, s1, s2⟩ := take_dig hyx k
      rw [← hbo] at hc s1 s2
      have hb' := hb.fr1 hf (by omega)
      refine RW.ps 3 rfl ?_
      refine RW.ia hm.1 i0n (by omega) ?_
      rw [hm.2.2.1]
      refine RW.icm (fun k2 => ?_) (fun _ => ?_)
      · rw [xi_ge, iu (by omega), hi] at k2; omega
      refine RW.ps 4 rfl ?_
      refine RW.ia hm.1 (i_succ hi (by omega)) (by omega) ?_
      rw [hm.2.2.2.2 k (Nat.le_refl _) (by omega)]
      refine RW.ps 2 rfl ?_
      refine RW.cp rfl rfl rfl rfl rfl (c_mpart hb' hLb hi) ?_
      refine RW.ps 3 rfl ?_
      refine RW.top (congrArg Value.int ((show Int32.ofInt (d16 x k : Nat) - Int32.ofInt (d16 y k : Nat) - Int32.ofInt (-bo) = Int32.ofInt (bo + ((d16 x k : Int) - (d16 y k : Int))) by rw [ii_sub, ii_sub]; congr 1; omega))) ?_
      generalize hv : bo + ((d16 x k : Int) - (d16 y k : Int)) = v at *
      refine RW.ps 2 rfl ?_
      refine RW.weak (lv0 := [.ref a, .ref b, xj, .int iw, .int (Int32.ofInt v)]) ⟨Or.inr rfl, Or.inr rfl, Or.inl rfl, Or.inr rfl, Or.inr rfl, trivial⟩ ?_
      refine RW.sk [.int (Int32.ofInt v)] rfl ?_
      have h36 : ∀ c : Int32, c = Int32.ofInt (-(v / 65536)) → RW (fun r o' => r = .inl none ∧ (Fr [(a, 1)] o o' ∧ Mn o' a L (x - y))) y_M_takeFrom (xbk y_M_takeFrom 36) [.ref a, .ref b, xj, .int iw, .int (Int32.ofInt v)] [.int c] w := by
        intro c hcc
        subst hcc
        refine RW.ps 8 rfl ?_
        refine RW.top (congrArg Value.int ((show Int32.ofInt v &&& 65535 = Int32.ofInt (d16 (x - y) k : Nat) by rw [ii_mask, s1]))) ?_
        refine RW.ist hm.1 (i_succ hi (by omega)) (by omega) ?_
        refine RW.ps 1 rfl ?_
        refine RW.go ?_
        refine RW.weak (lv0 := [.ref a, .ref b, .int (Int32.ofInt (-(v / 65536))), .int (iw + 1), xj]) ⟨Or.inr rfl, Or.inr rfl, Or.inr rfl, Or.inr rfl, Or.inl rfl, trivial⟩ ?_
        refine RW.sk [] rfl ?_
        exact ih (k + 1) (iw + 1) _ (v / 65536) (by omega) (i_succ hi (by omega)) s2 hf.pi1 hm.up
      refine RW.ifc (fun k2 => ?_) (fun k2 => ?_)
      · rw [xi_ge, ii_toInt (by omega) (by omega), i0] at k2
        refine RW.ps 1 rfl ?_
        refine RW.weak (lv0 := [.ref a, .ref b, xj, .int iw, .int (Int32.ofInt v)]) ⟨Or.inr rfl, Or.inr rfl, Or.inl rfl, Or.inr rfl, Or.inr rfl, trivial⟩ ?_
        refine RW.sk [.int 0] rfl ?_
        exact h36 0 (by rw [show v / 65536 = 0 by omega]; rfl)
      · rw [xi_ge, ii_toInt (by omega) (by omega), i0] at k2
        refine RW.ps 1 rfl ?_
        refine RW.go ?_
        refine RW.weak (lv0 := [.ref a, .ref b, xj, .int iw, .int (Int32.ofInt v)]) ⟨Or.inr rfl, Or.inr rfl, Or.inl rfl, Or.inr rfl, Or.inr rfl, trivial⟩ ?_
        refine RW.sk [.int 1] rfl ?_
        exact h36 1 (by rw [show v / 65536 = -1 by omega]; rfl)
  refine RW.ps 4 rfl ?_
  refine RW.weak (lv0 := [.ref a, .ref b, .int 0, .int 0, xj]) ⟨Or.inr rfl, Or.inr rfl, Or.inr rfl, Or.inr rfl, Or.inl rfl, trivial⟩ ?_
  refine RW.sk [] rfl ?_
  exact loop n 0 0 o 0 (Nat.zero_add _) rfl (by rw [Nat.pow_zero, Nat.mod_one, Nat.mod_one]; rfl) (Fr.refl _ _) (ha.md0 _)
end M3
