/-! THE REFERENCE: addOne, takeOne, multiply, scale, divideSmall. -/
theorem inc_div {u j : Nat} (h : u % 65536 ^ j = 65536 ^ j - 1) : (u + 1) / 65536 ^ j = u / 65536 ^ j + 1 := by
  have hP := pow16_pos j
  have h1 := Nat.mod_add_div u (65536 ^ j)
  generalize 65536 ^ j = P at *
  rw [h] at h1
  have h2 : u + 1 = P * (u / P + 1) := by rw [Nat.mul_add, Nat.mul_one]; omega
  generalize hq : u / P = q at *
  rw [h2, Nat.mul_div_cancel_left _ hP]
theorem inc_at {u j : Nat} (h : u % 65536 ^ j = 65536 ^ j - 1) : d16 (u + 1) j = (d16 u j + 1) % 65536 := by
  unfold d16
  rw [inc_div h]; omega
theorem inc_hi {u j i : Nat} (h : u % 65536 ^ j = 65536 ^ j - 1) (hd : d16 u j ≠ 65535) (hi : j < i) : d16 (u + 1) i = d16 u i := by
  obtain ⟨e, rfl⟩ : ∃ e, i = j + (1 + e) := ⟨i - j - 1, by omega⟩
  unfold d16 at hd ⊢
  rw [Nat.pow_add, Nat.pow_add, ← Nat.div_div_eq_div_mul, ← Nat.div_div_eq_div_mul, ← Nat.div_div_eq_div_mul, ← Nat.div_div_eq_div_mul, inc_div h, Nat.pow_one]
  generalize u / 65536 ^ j = q at *
  rw [show (q + 1) / 65536 = q / 65536 by omega]
theorem inc_go {u j : Nat} (h : u % 65536 ^ j = 65536 ^ j - 1) (hd : d16 u j = 65535) : u % 65536 ^ (j + 1) = 65536 ^ (j + 1) - 1 := by
  have hP := pow16_pos j
  rw [d16_step, h, hd, Nat.pow_succ]; omega
section MD4
variable {o : xO} {a L n k S x : Nat}
theorem Md.same (h : Md o a L n k S x) (hk : k ≤ n) (hs : ∀ i, k ≤ i → i < n → d16 S i = d16 x i) (hS : S < 65536 ^ n) : Mu o a L n S :=
  ⟨h.1, h.2.1, hS, h.2.2.1, fun i hi => by
    by_cases hik : i < k
    · exact h.2.2.2.1 i hik
    · rw [hs i (by omega) hi]; exact h.2.2.2.2 i (by omega) hi⟩
end MD4
section M4
variable {o : xO} {Y a b L Lb n m x y : Nat}
theorem c_addOne (ha : Mn o a L x) (hL : L ≤ 9000) (hn : n16 x + 1 < L) : Cv y_M_addOne [.ref Y, .ref a] o (fun o' => Fr [(a, 1)] o o' ∧ Mn o' a L (x + 1)) := by
  have hx := ha.2.2.1
  have hfin : ∀ w j (d : Nat) (iw : Int32) N, iw.toInt = ((j + 1 : Nat) : Int) → Fr [(a, 1)] o w → xk w a = (1, L) → j + 1 < L → xi w a (j + 1) = Int32.ofInt (d : Nat) → Mu (xpi w a (j + 1) (Int32.ofInt ((d + 1 : Nat) : Int))) a L N (x + 1) → n16 (x + 1) = N → RW (fun r o' => r = .inl none ∧ (Fr [(a, 1)] o o' ∧ Mn o' a L (x + 1))) y_M_addOne (xbk y_M_addOne 45) [.ref Y, .ref a, .int iw] [] w := by
    intro w j d iw N hi hf hk hj hd hm hN
    refine RW.ps 3 rfl ?_
    refine RW.ia hk hi hj ?_
    rw [hd]
    refine RW.ps 2 rfl ?_
    refine RW.top (congrArg Value.int (is1 d)) ?_
    refine RW.ist hk hi hj ?_
    refine RW.re rfl rfl ⟨rfl, hf.pi1, ?_⟩
    unfold Mn
    rw [hN]
    exact hm
  have loop : ∀ q j (iw : Int32) w, j + q = n16 x → iw.toInt = ((j + 1 : Nat) : Int) → x % 65536 ^ j = 65536 ^ j - 1 → Fr [(a, 1)] o w → Md w a L (n16 x) j (x + 1) x → RW (fun r o' => r = .inl none ∧ (Fr [(a, 1)] o o' ∧ Mn o' a L (x + 1))) y_M_addOne (xbk y_M_addOne 2) [.ref Y, .ref a, .int iw] [] w := by
    intro q
    induction q with
    | zero =>
      intro j iw w hj hi hlow hf hm
      have hjn : j = n16 x := by omega
      have hxP : x + 1 = 65536 ^ j := by
        have hP := pow16_pos j
        rw [hjn] at hlow ⊢
        rw [Nat.mod_eq_of_lt hx] at hlow
        have hP2 := pow16_pos (n16 x)
        omega
      refine RW.ps 3 rfl ?_
      refine RW.ia hm.1 i0n (by omega) ?_
      rw [hm.2.2.1]
      refine RW.icm (fun _ => ?_) (fun k => ?_)
      rotate_left
      · rw [xi_gt, iu (by omega), hi] at k; omega
      refine RW.ps 3 rfl ?_
      refine RW.ia hm.1 i0n (by omega) ?_
      rw [hm.2.2.1]
      refine RW.icm (fun k => ?_) (fun _ => ?_)
      · rw [xi_le, iu (by omega), hi] at k; omega
      refine RW.ps 3 rfl ?_
      refine RW.ia hm.1 i0n (by omega) ?_
      rw [hm.2.2.1]
      refine RW.ps 2 rfl ?_
      refine RW.top (congrArg Value.int (is1 (n16 x))) ?_
      refine RW.ist hm.1 i0n (by omega) ?_
      refine RW.ps 3 rfl ?_
      refine RW.ist (k := j + 1) hm.1 hi (by omega) ?_
      refine hfin _ j 0 iw (n16 x + 1) hi hf.pi1.pi1 hm.1 (by omega) xpi_same ?_ ?_
      · rw [hjn]
        refine ⟨hm.1, hn, ?_, ?_, fun k hk => ?_⟩
        · rw [hxP, hjn]; exact Nat.pow_lt_pow_right (by decide) (by omega)
        · exact (xpi_ne (fun _ => by omega)).trans ((xpi_ne (fun _ => by omega)).trans xpi_same)
        · by_cases hkn : k = n16 x
          · rw [hkn, hxP, hjn]
            refine xpi_same.trans ?_
            unfold d16
            rw [Nat.div_self (pow16_pos _)]
          · rw [xpi_ne (fun _ => by omega), xpi_ne (fun _ => by omega), xpi_ne (fun _ => by omega)]
            exact hm.2.2.2.1 k (by omega)
      · have h1 := n16_le (x := x + 1) (n := n16 x)
        have h2 := n16_le (x := x + 1) (n := n16 x + 1)
        rw [hxP, hjn] at h1 h2 ⊢
        have h3 : ¬ n16 (65536 ^ n16 x) ≤ n16 x := fun z => absurd (h1.mp z) (Nat.lt_irrefl _)
        have h4 := h2.mpr (Nat.pow_lt_pow_right (by decide) (by omega))
        omega
    | succ q ih =>
      intro j iw w hj hi hlow hf hm
      have hd := d16_lt x j
      refine RW.ps 3 rfl ?_
      refine RW.ia hm.1 i0n (by omega) ?_
      rw [hm.2.2.1]
      refine RW.icm (fun k => ?_) (fun _ => ?_)
      · rw [xi_gt, iu (by omega), hi] at k; omega
      refine RW.ps 2 rfl ?_
      refine RW.ia hm.1 hi (by omega) ?_
      rw [hm.2.2.2.2 j (Nat.le_refl _) (by omega)]
      refine RW.ps 1 rfl ?_
      refine RW.icm (fun k => ?_) (fun k => ?_)
      · rw [xi_ne, iu (by omega), show (65535 : Int32).toInt = 65535 from rfl] at k
        have hd2 : d16 x j ≠ 65535 := by omega
        refine RW.ps 3 rfl ?_
        refine RW.ia hm.1 i0n (by omega) ?_
        rw [hm.2.2.1]
        refine RW.icm (fun _ => ?_) (fun k2 => ?_)
        rotate_left
        · rw [xi_le, iu (by omega), hi] at k2; omega
        have hat := inc_at hlow
        rw [Nat.mod_eq_of_lt (by omega)] at hat
        have hS : x + 1 < 65536 ^ n16 x := by
          rcases Nat.lt_or_ge (x + 1) (65536 ^ n16 x) with h1 | h1
          · exact h1
          · have h2 : x + 1 = 65536 ^ n16 x := by omega
            have h3 : d16 x j = 65535 := by
              have h4 : d16 (x + 1) j = 0 := by
                rw [h2]
                unfold d16
                obtain ⟨e, he⟩ : ∃ e, n16 x = j + (1 + e) := ⟨n16 x - j - 1, by omega⟩
                rw [he, Nat.pow_add, Nat.mul_div_cancel_left _ (pow16_pos j), Nat.pow_add, Nat.pow_one, Nat.mul_mod_right]
              omega
            exact absurd h3 hd2
        refine hfin w j (d16 x j) iw (n16 x) hi hf hm.1 (by omega) (hm.2.2.2.2 j (Nat.le_refl _) (by omega)) ?_ ?_
        · rw [← hat]
          exact hm.up.same (by omega) (fun i h1 h2 => inc_hi hlow hd2 (by omega)) hS
        · have h1 := n16_le.mpr hS
          have h2 := n16_mono (Nat.le_add_right x 1)
          omega
      · rw [xi_ne, iu (by omega), show (65535 : Int32).toInt = 65535 from rfl] at k
        have hd2 : d16 x j = 65535 := by omega
        have hat := inc_at hlow
        rw [hd2] at hat
        refine RW.ps 3 rfl ?_
        refine RW.ist (k := j + 1) hm.1 hi (by omega) ?_
        refine RW.ps 1 rfl ?_
        refine RW.go ?_
        have h2 := hm.up
        rw [hat] at h2
        exact ih (j + 1) (iw + 1) _ (by omega) (i_succ hi (by omega)) (inc_go hlow hd2) hf.pi1 h2
  refine RW.ps 2 rfl ?_
  exact loop (n16 x) 0 1 o (Nat.zero_add _) rfl (by rw [Nat.pow_zero, Nat.mod_one]) (Fr.refl _ _) (Mu.md0 ha _)
theorem c_takeOne (ha : Mu o a L n (x + 1)) (hL : L ≤ 9000) : Cv y_M_takeOne [.ref a] o (fun o' => Fr [(a, 1)] o o' ∧ Mn o' a L x) := by
  have hx := ha.2.2.1
  have haL := ha.2.1
  have loop : ∀ q j (iw : Int32) w, j + q = n → iw.toInt = ((j + 1 : Nat) : Int) → x % 65536 ^ j = 65536 ^ j - 1 → Fr [(a, 1)] o w → Md w a L n j x (x + 1) → RW (fun r o' => r = .inl none ∧ (Fr [(a, 1)] o o' ∧ Mn o' a L x)) y_M_takeOne (xbk y_M_takeOne 2) [.ref a, .int iw] [] w := by
    intro q
    induction q with
    | zero =>
      intro j iw w hj hi hlow hf hm
      have hjn : j = n := by omega
      subst hjn
      have hP := pow16_pos j
      rw [Nat.mod_eq_of_lt (by omega)] at hlow
      omega
    | succ q ih =>
      intro j iw w hj hi hlow hf hm
      have hd := d16_lt x j
      have hat := inc_at hlow
      have hd1 := d16_lt (x + 1) j
      refine RW.ps 2 rfl ?_
      refine RW.ia hm.1 hi (by omega) ?_
      rw [hm.2.2.2.2 j (Nat.le_refl _) (by omega)]
      refine RW.ifc (fun k => ?_) (fun k => ?_)
      · rw [xi_ne, iu (by omega), i0] at k
        have hd2 : d16 x j ≠ 65535 := by omega
        refine RW.ps 3 rfl ?_
        refine RW.ia hm.1 hi (by omega) ?_
        rw [hm.2.2.2.2 j (Nat.le_refl _) (by omega), show d16 (x + 1) j = d16 x j + 1 by omega]
        refine RW.ps 2 rfl ?_
        refine RW.top (congrArg Value.int (is1' (d16 x j))) ?_
        refine RW.ist hm.1 hi (by omega) ?_
        have m2 : Mu _ a L n x := hm.up.same (by omega) (fun i h1 h2 => (inc_hi hlow hd2 (by omega)).symm) (by omega)
        refine RW.ps 1 rfl ?_
        refine RW.cv rfl rfl rfl rfl rfl (c_cutn m2 hL) ?_
        intro o2 ⟨f2, r2⟩
        exact RW.re rfl rfl ⟨rfl, hf.pi1.trans f2, r2⟩
      · rw [xi_ne, iu (by omega), i0] at k
        have hd2 : d16 x j = 65535 := by omega
        refine RW.ps 3 rfl ?_
        refine RW.ist (k := j + 1) hm.1 hi (by omega) ?_
        refine RW.ps 1 rfl ?_
        refine RW.go ?_
        have h2 := hm.up
        rw [hd2] at h2
        exact ih (j + 1) (iw + 1) _ (by omega) (i_succ hi (by omega)) (inc_go hlow hd2) hf.pi1 h2
  refine RW.ps 2 rfl ?_
  exact loop n 0 1 o (Nat.zero_add _) rfl (by rw [Nat.pow_zero, Nat.mod_one]) (Fr.refl _ _) (Mu.md0 ha _)
theorem scale_dig (x f g k : Nat) : (((x % 65536 ^ k * f + g) / 65536 ^ k) + d16 x k * f) % 65536 = d16 (x * f + g) k ∧ (((x % 65536 ^ k * f + g) / 65536 ^ k) + d16 x k * f) / 65536 = (x % 65536 ^ (k + 1) * f + g) / 65536 ^ (k + 1) := by
  refine carry_nat16 (Z := x * f + g) ?_ ⟨x / 65536 ^ (k + 1) * f, ?_⟩
  · rw [d16_step, Nat.add_mul, show d16 x k * 65536 ^ k * f = d16 x k * f * 65536 ^ k by ac_rfl]; omega
  · have e1 := Nat.mod_add_div x (65536 ^ (k + 1))
    conv => lhs; rw [← e1]
    rw [Nat.add_mul, show 65536 ^ (k + 1) * (x / 65536 ^ (k + 1)) * f = x / 65536 ^ (k + 1) * f * 65536 ^ (k + 1) by ac_rfl]; omega
theorem scale_c {f g : Nat} (hf : f < 65536) (hg : g < 65536) (x k : Nat) : (x % 65536 ^ k * f + g) / 65536 ^ k < 65536 := by
  have hP := pow16_pos k
  have h1 := Nat.mod_lt x hP
  rw [Nat.div_lt_iff_lt_mul hP]
  generalize x % 65536 ^ k = u at *
  generalize 65536 ^ k = P at *
  have h2 : u * f ≤ (P - 1) * 65535 := Nat.mul_le_mul (by omega) (by omega)
  rw [Nat.sub_mul, Nat.one_mul] at h2
  omega
theorem c_mscale {f g : Nat} {fw gw : Int32} (ha : Mn o a L x) (hL : L ≤ 9000) (hf : fw.toInt = (f : Int)) (hg : gw.toInt = (g : Int)) (hf0 : 0 < f) (hf2 : f < 65536) (hg2 : g < 65536) (hn : n16 x + 1 < L) : Cv y_M_scale [.ref a, .int fw, .int gw] o (fun o' => Fr [(a, 1)] o o' ∧ Mn o' a L (x * f + g)) := by
  have hfw := i_of hf
  have hgw := i_of hg
  have hx := ha.2.2.1
  have hSx : x ≤ x * f + g := by have := Nat.mul_le_mul_left x hf0; omega
  have loop : ∀ q k (iw : Int32) w, k + q = n16 x → iw.toInt = ((k + 1 : Nat) : Int) → Fr [(a, 1)] o w → Md w a L (n16 x) k (x * f + g) x → RW (fun r o' => r = .inl none ∧ (Fr [(a, 1)] o o' ∧ Mn o' a L (x * f + g))) y_M_scale (xbk y_M_scale 6) [.ref a, .int fw, .int gw, .long (Int64.ofInt (((x % 65536 ^ k * f + g) / 65536 ^ k : Nat) : Int)), xj, .int iw, xj, xj] [] w := by
    intro q
    induction q with
    | zero =>
      intro k iw w hk hi hfr hm
      have hkn : k = n16 x := by omega
      have hc := scale_c hf2 hg2 x k
      have e1 : (x % 65536 ^ k * f + g) / 65536 ^ k = (x * f + g) / 65536 ^ n16 x := by rw [hkn, Nat.mod_eq_of_lt hx]
      rw [e1] at hc ⊢
      generalize hC : (x * f + g) / 65536 ^ n16 x = C at *
      rw [hkn] at hm
      refine RW.ps 3 rfl ?_
      refine RW.ia hm.1 i0n (by omega) ?_
      rw [hm.2.2.1]
      refine RW.icm (fun _ => ?_) (fun k2 => ?_)
      rotate_left
      · rw [xi_gt, iu (by omega), hi] at k2; omega
      refine RW.ps 3 rfl ?_
      refine RW.ifc (fun k2 => ?_) (fun k2 => ?_)
      · have k2 := (lcmp_leZ (a := (C : Int)) (b := 0) (by omega) (by omega) (by decide) (by decide)).mp k2
        have hS : x * f + g < 65536 ^ n16 x := by
          rcases Nat.div_eq_zero_iff.mp (show (x * f + g) / 65536 ^ n16 x = 0 by rw [hC]; omega) with h | h
          · have := pow16_pos (n16 x); omega
          · exact h
        refine RW.re rfl rfl ⟨rfl, hfr, ?_⟩
        unfold Mn
        have h1 := n16_le.mpr hS
        have h2 := n16_mono hSx
        rw [show n16 (x * f + g) = n16 x by omega]
        exact hm.mu hS
      · have k2 := fun z => k2 ((lcmp_leZ (a := (C : Int)) (b := 0) (by omega) (by omega) (by decide) (by decide)).mpr z)
        have hd : d16 (x * f + g) (n16 x) = C := by unfold d16; rw [hC, Nat.mod_eq_of_lt hc]
        have hS : x * f + g < 65536 ^ (n16 x + 1) := by
          have hc2 := hc
          rw [← hC, Nat.div_lt_iff_lt_mul (pow16_pos _)] at hc2
          rw [Nat.pow_succ, Nat.mul_comm _ 65536]; exact hc2
        have hpos : d16 (x * f + g) (n16 x) ≠ 0 := by
          rw [hd]
          have : ¬ (C : Int) ≤ 0 := k2
          omega
        refine RW.ps 3 rfl ?_
        refine RW.ia hm.1 i0n (by omega) ?_
        rw [hm.2.2.1]
        refine RW.ps 2 rfl ?_
        refine RW.top (congrArg Value.int (is1 (n16 x))) ?_
        refine RW.ist hm.1 i0n (by omega) ?_
        refine RW.ps 3 rfl ?_
        refine RW.ia (o := xpi w a 0 (Int32.ofInt ((n16 x + 1 : Nat) : Int))) (r := a) (k := 0) hm.1 i0n (by omega) ?_
        rw [xpi_same]
        refine RW.ps 2 rfl ?_
        refine RW.top (congrArg Value.int (ii_toInt32 _)) ?_
        refine RW.ist (o := xpi w a 0 (Int32.ofInt ((n16 x + 1 : Nat) : Int))) (r := a) (k := n16 x + 1) hm.1 (iu (u := n16 x + 1) (by omega)) (by omega) ?_
        refine RW.re rfl rfl ⟨rfl, hfr.pi1.pi1, ?_⟩
        unfold Mn
        rw [n16_is hS hpos, ← hd]
        exact ⟨hm.1, hn, hS, (xpi_ne (fun _ => by omega)).trans xpi_same, fun j hj => by
          by_cases hjn : j = n16 x
          · subst hjn; exact xpi_same
          · rw [xpi_ne (fun _ => by omega), xpi_ne (fun _ => by omega)]; exact hm.2.2.2.1 j (by omega)⟩
    | succ q ih =>
      intro k iw w hk hi hfr hm
      have hc := scale_c hf2 hg2 x k
      have hd := d16_lt x k
      obtain ⟨s1, s2⟩ := scale_dig x f g k
      have hdf : d16 x k * f ≤ 65535 * 65535 := Nat.mul_le_mul (by omega) (by omega)
      generalize (x % 65536 ^ k * f + g) / 65536 ^ k = c at *
      refine RW.ps 3 rfl ?_
      refine RW.ia hm.1 i0n (by omega) ?_
      rw [hm.2.2.1]
      refine RW.icm (fun k2 => ?_) (fun _ => ?_)
      · rw [xi_gt, iu (by omega), hi] at k2; omega
      refine RW.ps 2 rfl ?_
      refine RW.ia hm.1 hi (by omega) ?_
      rw [hm.2.2.2.2 k (Nat.le_refl _) (by omega)]
      refine RW.ps 6 rfl ?_
      refine RW.top (congrArg Value.long ((show (Int32.ofInt (d16 x k : Nat)).toInt64 * fw.toInt64 + Int64.ofInt (c : Nat) = Int64.ofInt ((c + d16 x k * f : Nat) : Int) by rw [hfw, ii_l (by omega) (by omega), ii_l (by omega) (by omega), li_mul, li_add, ← Int.natCast_mul, ← Int.natCast_add, Nat.add_comm]))) ?_
      refine RW.ps 7 rfl ?_
      refine RW.weak (lv0 := [.ref a, .int fw, .int gw, xj, xj, .int iw, .long (Int64.ofInt ((c + d16 x k * f : Nat) : Int)), xj]) ⟨Or.inr rfl, Or.inr rfl, Or.inr rfl, Or.inl rfl, Or.inl rfl, Or.inr rfl, Or.inr rfl, Or.inl rfl, trivial⟩ ?_
      refine RW.sk [.int ((Int64.ofInt ((c + d16 x k * f : Nat) : Int) &&& 65535).toInt32), .int iw, .ref a] rfl ?_
      refine RW.top (congrArg Value.int ((show (Int64.ofInt ((c + d16 x k * f : Nat) : Int) &&& 65535).toInt32 = Int32.ofInt (d16 (x * f + g) k : Nat) by rw [li_low16, ← s1]; rfl))) ?_
      refine RW.ist hm.1 hi (by omega) ?_
      have m2 := hm.up
      refine RW.ps 5 rfl ?_
      refine RW.go ?_
      refine RW.weak (lv0 := [.ref a, .int fw, .int gw, .long (Int64.ofInt (((c + d16 x k * f) / 65536 : Nat) : Int)), xj, .int (iw + 1), xj, xj]) ⟨Or.inr rfl, Or.inr rfl, Or.inr rfl, Or.inr (congrArg Value.long (n_shr (k := 16) (y := 16) rfl (by decide) (by omega)).symm), Or.inl rfl, Or.inr rfl, Or.inl rfl, Or.inl rfl, trivial⟩ ?_
      refine RW.sk [] rfl ?_
      rw [s2]
      exact ih (k + 1) (iw + 1) _ (by omega) (i_succ hi (by omega)) hfr.pi1 m2
  refine RW.ps 5 rfl ?_
  refine RW.weak (lv0 := [.ref a, .int fw, .int gw, .long (Int64.ofInt (g : Nat)), xj, .int 1, xj, xj]) ⟨Or.inr rfl, Or.inr rfl, Or.inr rfl, Or.inr (congrArg Value.long (by rw [hgw, ii_l (by omega) (by omega)])), Or.inl rfl, Or.inr rfl, Or.inl rfl, Or.inl rfl, trivial⟩ ?_
  refine RW.sk [] rfl ?_
  have h0 := loop (n16 x) 0 1 o (Nat.zero_add _) rfl (Fr.refl _ _) (Mu.md0 ha _)
  rw [Nat.pow_zero, Nat.mod_one, Nat.zero_mul, Nat.zero_add, Nat.div_one] at h0
  exact h0
theorem c_divideSmall {d : Nat} {dw : Int32} (ha : Mu o a L n x) (hL : L ≤ 9000) (hd : dw.toInt = (d : Int)) (hd0 : 0 < d) (hd2 : d < 65536) : Cq y_M_divideSmall [.ref a, .int dw] o (fun v o' => v = .int (Int32.ofInt ((x % d : Nat) : Int)) ∧ Fr [(a, 1)] o o' ∧ Mn o' a L (x / d)) := by
  have hdw := i_of hd
  have haL := ha.2.1
  have hx := ha.2.2.1
  have hq : x / d < 65536 ^ n := Nat.lt_of_le_of_lt (Nat.div_le_self _ _) hx
  have loop : ∀ k w, k ≤ n → Fr [(a, 1)] o w → Md w a L n k x (x / d) → RW (fun r o' => ∃ v, r = .inl (some v) ∧ (v = .int (Int32.ofInt ((x % d : Nat) : Int)) ∧ Fr [(a, 1)] o o' ∧ Mn o' a L (x / d))) y_M_divideSmall (xbk y_M_divideSmall 7) [.ref a, .int dw, .long (Int64.ofInt ((x / 65536 ^ k % d : Nat) : Int)), xj, .int (Int32.ofInt (k : Nat)), xj, xj] [] w := by
    intro k
    induction k with
    | zero =>
      intro w hk hf hm
      refine RW.ps 1 rfl ?_
      refine RW.ifc (fun _ => ?_) (fun k => absurd (xi_le.mpr (by decide)) k)
      have m2 := hm.mu0 hq
      refine RW.ps 1 rfl ?_
      refine RW.cv rfl rfl rfl rfl rfl (c_cutn m2 hL) ?_
      intro o2 ⟨f2, r2⟩
      refine RW.ps 2 rfl ?_
      refine RW.top (congrArg Value.int (ii_toInt32 _)) ?_
      rw [Nat.pow_zero, Nat.div_one]
      exact RW.re rfl rfl ⟨_, rfl, rfl, hf.trans f2, r2⟩
    | succ k ih =>
      intro w hk hf hm
      have hdk := d16_lt x k
      have hr := Nat.mod_lt (x / 65536 ^ (k + 1)) hd0
      obtain ⟨s1, s2⟩ := part_step16 (x := x) (k := k) hd0
      generalize x / 65536 ^ (k + 1) % d = r at *
      have hrb : r * 65536 + d16 x k < 4294967296 := by
        have := Nat.mul_le_mul_right 65536 (show r ≤ 65534 by omega); omega
      refine RW.ps 1 rfl ?_
      refine RW.ifc (fun k2 => ?_) (fun _ => ?_)
      · rw [xi_le, iu (by omega), i0] at k2; omega
      refine RW.ps 3 rfl ?_
      refine RW.top (congrArg Value.long (n_shl (k := 16) (y := 16) r rfl (by decide))) ?_
      refine RW.ps 2 rfl ?_
      refine RW.ia hm.1 (iu (u := k + 1) (by omega)) (by omega) ?_
      rw [hm.2.2.2.1 k (by omega)]
      refine RW.ps 1 rfl ?_
      refine RW.top (congrArg Value.long (ii_l (z := (d16 x k : Nat)) (by omega) (by omega))) ?_
      refine RW.ps 1 rfl ?_
      refine RW.top (congrArg Value.long (n_or (a := r) (b := d16 x k) (k := 16) hdk (by omega))) ?_
      refine RW.ps 6 rfl ?_
      refine RW.weak (lv0 := [.ref a, .int dw, xj, xj, .int (Int32.ofInt ((k + 1 : Nat) : Int)), .long (Int64.ofInt ((r * 65536 + d16 x k : Nat) : Int)), xj]) ⟨Or.inr rfl, Or.inr rfl, Or.inl rfl, Or.inl rfl, Or.inr rfl, Or.inr rfl, Or.inl rfl, trivial⟩ ?_
      refine RW.sk [.long dw.toInt64, .long (Int64.ofInt ((r * 65536 + d16 x k : Nat) : Int)), .int (Int32.ofInt ((k + 1 : Nat) : Int)), .ref a] rfl ?_
      refine RW.top (congrArg Value.long ((show dw.toInt64 = Int64.ofInt (d : Int) by rw [hdw, ii_l (by omega) (by omega)]))) ?_
      refine RW.ldv (l_ne0 (by omega) (by omega)) ?_
      refine RW.top (congrArg Value.long (n_div (a := r * 65536 + d16 x k) (b := d) (by omega) (by omega))) ?_
      refine RW.ps 1 rfl ?_
      refine RW.top (congrArg Value.int (ii_toInt32 _)) ?_
      rw [s1]
      refine RW.ist hm.1 (iu (u := k + 1) (by omega)) (by omega) ?_
      have m2 := hm.dn
      refine RW.ps 3 rfl ?_
      refine RW.top (congrArg Value.long ((show dw.toInt64 = Int64.ofInt (d : Int) by rw [hdw, ii_l (by omega) (by omega)]))) ?_
      refine RW.lrm (l_ne0 (by omega) (by omega)) ?_
      refine RW.top (congrArg Value.long (n_rem (a := r * 65536 + d16 x k) (b := d) (by omega) (by omega))) ?_
      rw [s2]
      refine RW.ps 2 rfl ?_
      refine RW.go ?_
      refine RW.weak (lv0 := [.ref a, .int dw, .long (Int64.ofInt ((x / 65536 ^ k % d : Nat) : Int)), xj, .int (Int32.ofInt (k : Nat)), xj, xj]) ⟨Or.inr rfl, Or.inr rfl, Or.inr rfl, Or.inl rfl, Or.inr (congrArg Value.int (is1m k).symm), Or.inl rfl, Or.inl rfl, trivial⟩ ?_
      refine RW.sk [] rfl ?_
      exact ih _ (by omega) hf.pi1 m2
  refine RW.ps 4 rfl ?_
  refine RW.ia ha.1 i0n (by omega) ?_
  rw [ha.2.2.2.1]
  refine RW.ps 1 rfl ?_
  refine RW.weak (lv0 := [.ref a, .int dw, .long (Int64.ofInt ((x / 65536 ^ n % d : Nat) : Int)), xj, .int (Int32.ofInt (n : Nat)), xj, xj]) ⟨Or.inr rfl, Or.inr rfl, Or.inr (congrArg Value.long (by rw [Nat.div_eq_of_lt hx, Nat.zero_mod]; rfl)), Or.inl rfl, Or.inr rfl, Or.inl rfl, Or.inl rfl, trivial⟩ ?_
  refine RW.sk [] rfl ?_
  exact loop n o (Nat.le_refl _) (Fr.refl _ _) (ha.mdn _)
end M4
