/-! THE REFERENCE'S CALLS: compare, low, length, bit, ones. -/
section C10
variable {o0 o o' : xO} {Y c : Nat} {z : Nat → Int} {t p : List Int32}
theorem c_mcompare (h : MI o Y z t p c) {a b : Int32} : Ct y_M_compare [.ref Y, .int a, .int b] o (MA o Y z t p (if okr a ∧ okr b then 0 else 1) (if okr a ∧ okr b then .int (cmpZ (z (rx a)) (z (rx b))) else .int 0)) := by
  have h := MS.start h
  have hbad : ¬ (okr a ∧ okr b) → RW (MA o Y z t p (if okr a ∧ okr b then 0 else 1) (if okr a ∧ okr b then .int (cmpZ (z (rx a)) (z (rx b))) else .int 0)) y_M_compare (xbk y_M_compare 19) [.ref Y] [.ref Y] o := by
    intro hno
    refine RW.ps 1 rfl ?_
    refine RW.pf h.y rfl rfl ?_
    have h1 : MS o (xpf o Y 0 (.int 1)) Y z t p 1 := h.code 1
    refine RW.ps 1 rfl ?_
    refine RW.gf h1.y h1.cd ?_
    refine RW.ifc (fun k => absurd (xi_le.mp k) (by decide)) (fun _ => ?_)
    refine RW.ps 1 rfl ?_
    exact RW.re rfl rfl ⟨h1.1, by rw [if_neg hno]; exact h1.2, by rw [if_neg hno]⟩
  refine RW.ps 2 rfl ?_
  by_cases ha : ¬ okr a
  · refine RW.cp rfl rfl rfl rfl rfl (c_isRegister a) ?_
    rw [if_neg ha]
    refine RW.ifc (fun _ => ?_) (fun k => absurd (xi_eq.mpr rfl) k)
    refine RW.weak (lv0 := [.ref Y]) ⟨Or.inr rfl, trivial⟩ ?_
    exact hbad (fun k => ha k.1)
  have ha := Classical.not_not.mp ha
  refine RW.cp rfl rfl rfl rfl rfl (c_isRegister a) ?_
  rw [if_pos ha]
  refine RW.ifc (fun k => absurd (xi_eq.mp k) (by decide)) (fun _ => ?_)
  refine RW.ps 1 rfl ?_
  by_cases hb : ¬ okr b
  · refine RW.cp rfl rfl rfl rfl rfl (c_isRegister b) ?_
    rw [if_neg hb]
    refine RW.ifc (fun _ => ?_) (fun k => absurd (xi_eq.mpr rfl) k)
    refine RW.weak (lv0 := [.ref Y]) ⟨Or.inr rfl, trivial⟩ ?_
    exact hbad (fun k => hb k.2)
  have hb := Classical.not_not.mp hb
  refine RW.cp rfl rfl rfl rfl rfl (c_isRegister b) ?_
  rw [if_pos hb]
  refine RW.ifc (fun k => absurd (xi_eq.mp k) (by decide)) (fun _ => ?_)
  refine RW.ps 1 rfl ?_
  refine RW.go ?_
  refine RW.pf h.y rfl rfl ?_
  have h1 : MS o (xpf o Y 0 (.int 0)) Y z t p 0 := h.code 0
  refine RW.ps 1 rfl ?_
  refine RW.gf h1.y h1.cd ?_
  refine RW.ifc (fun _ => ?_) (fun k => absurd (xi_le.mpr (by decide)) k)
  generalize xpf o Y 0 (.int 0) = o1 at h1 ⊢
  rw [if_pos ⟨ha, hb⟩, if_pos ⟨ha, hb⟩]
  clear hbad
  have sa := h1.sv ha
  have sb := h1.sv hb
  refine RW.weak (lv0 := [.ref Y, .int a, .int b, xj]) ⟨Or.inr rfl, Or.inr rfl, Or.inr rfl, Or.inl rfl, trivial⟩ ?_
  refine RW.sk [] rfl ?_
  refine RW.ps 1 rfl ?_
  refine RW.gf h1.y h1.f2 ?_
  refine RW.ps 1 rfl ?_
  refine RW.ia h1.k2 ha.ix ha.lt ?_
  rw [sa]
  refine RW.ps 1 rfl ?_
  refine RW.gf h1.y h1.f2 ?_
  refine RW.ps 1 rfl ?_
  refine RW.ia h1.k2 hb.ix hb.lt ?_
  rw [sb]
  refine RW.icm (fun k => ?_) (fun k => ?_)
  · rw [xi_eq, sign_i, sign_i] at k
    refine RW.ps 3 rfl ?_
    refine RW.gf h1.y h1.f3 ?_
    refine RW.cv rfl rfl (xrc_v rfl rfl h1.y) rfl rfl (c_mload h1 ha 3 (by decide)) ?_
    intro o2 ⟨h2, m2, f2⟩
    refine RW.ps 3 rfl ?_
    refine RW.gf h2.y h2.f4 ?_
    refine RW.cv rfl rfl (xrc_v rfl rfl h2.y) rfl rfl (c_mload h2 hb 4 (by decide)) ?_
    intro o3 ⟨h3, m4, f3⟩
    have m3 := m2.fr1 f3 (by omega)
    have sa3 := h3.sv ha
    generalize z (rx a) = x at *
    generalize z (rx b) = y at *
    refine RW.weak (lv0 := [.ref Y, .int a, .int b, xj]) ⟨Or.inr rfl, Or.inr rfl, Or.inr rfl, Or.inl rfl, trivial⟩ ?_
    refine RW.sk [] rfl ?_
    refine RW.ps 1 rfl ?_
    refine RW.gf h3.y h3.f3 ?_
    refine RW.ps 1 rfl ?_
    refine RW.gf h3.y h3.f4 ?_
    refine RW.cp rfl rfl rfl rfl rfl (c_compareRows m3 m4 (by decide) (by decide)) ?_
    refine RW.ps 2 rfl ?_
    refine RW.gf h3.y h3.f2 ?_
    refine RW.ps 1 rfl ?_
    refine RW.ia h3.k2 ha.ix ha.lt ?_
    rw [sa3]
    refine RW.ifc (fun k2 => ?_) (fun k2 => ?_)
    · have k2 := sign_lt.mp k2
      have hy : 0 ≤ y := by
        rcases Int.lt_or_eq_of_le k2 with g | g
        · rw [Int.sign_eq_one_of_pos g] at k
          have := Int.sign_eq_one_iff_pos.mp k.symm; omega
        · rw [← g] at k
          have := (sign_0 y).mp k.symm; omega
      refine RW.ps 1 rfl ?_
      rw [cmpZ_pos k2 hy]
      exact RW.re rfl rfl ⟨h3.1, h3.2, rfl⟩
    · have k2 : x < 0 := Int.not_le.mp (fun q => k2 (sign_lt.mpr q))
      rw [Int.sign_eq_neg_one_of_neg k2] at k
      have hy := Int.sign_eq_neg_one_iff_neg.mp k.symm
      refine RW.ps 2 rfl ?_
      refine RW.go ?_
      rw [cmpZ_neg k2 hy]
      exact RW.re rfl rfl ⟨h3.1, h3.2, rfl⟩
  rw [xi_eq, sign_i, sign_i] at k
  refine RW.ps 1 rfl ?_
  refine RW.gf h1.y h1.f2 ?_
  refine RW.ps 1 rfl ?_
  refine RW.ia h1.k2 ha.ix ha.lt ?_
  rw [sa]
  refine RW.ps 1 rfl ?_
  refine RW.gf h1.y h1.f2 ?_
  refine RW.ps 1 rfl ?_
  refine RW.ia h1.k2 hb.ix hb.lt ?_
  rw [sb]
  generalize z (rx a) = x at *
  generalize z (rx b) = y at *
  have hlt : x.sign < y.sign → x < y := by
    intro q
    rcases Int.lt_trichotomy x 0 with g | g | g
    · rcases Int.lt_trichotomy y 0 with g2 | g2 | g2
      · rw [Int.sign_eq_neg_one_of_neg g, Int.sign_eq_neg_one_of_neg g2] at q; omega
      · omega
      · omega
    · rcases Int.lt_trichotomy y 0 with g2 | g2 | g2
      · rw [g, Int.sign_eq_neg_one_of_neg g2] at q; exact absurd q (by decide)
      · rw [g, g2] at q; omega
      · omega
    · rcases Int.lt_trichotomy y 0 with g2 | g2 | g2
      · rw [Int.sign_eq_one_of_pos g, Int.sign_eq_neg_one_of_neg g2] at q; omega
      · rw [Int.sign_eq_one_of_pos g, g2] at q; exact absurd q (by decide)
      · rw [Int.sign_eq_one_of_pos g, Int.sign_eq_one_of_pos g2] at q; omega
  have hgt : y.sign < x.sign → y < x := by
    intro q
    rcases Int.lt_trichotomy y 0 with g | g | g
    · rcases Int.lt_trichotomy x 0 with g2 | g2 | g2
      · rw [Int.sign_eq_neg_one_of_neg g, Int.sign_eq_neg_one_of_neg g2] at q; omega
      · omega
      · omega
    · rcases Int.lt_trichotomy x 0 with g2 | g2 | g2
      · rw [g, Int.sign_eq_neg_one_of_neg g2] at q; exact absurd q (by decide)
      · rw [g, g2] at q; omega
      · omega
    · rcases Int.lt_trichotomy x 0 with g2 | g2 | g2
      · rw [Int.sign_eq_one_of_pos g, Int.sign_eq_neg_one_of_neg g2] at q; omega
      · rw [Int.sign_eq_one_of_pos g, g2] at q; exact absurd q (by decide)
      · rw [Int.sign_eq_one_of_pos g, Int.sign_eq_one_of_pos g2] at q; omega
  refine RW.icm (fun k2 => ?_) (fun k2 => ?_)
  · rw [xi_ge, sign_i, sign_i] at k2
    have h2 := hgt (by omega)
    refine RW.ps 1 rfl ?_
    refine RW.re rfl rfl ⟨h1.1, h1.2, ?_⟩
    unfold cmpZ
    rw [if_neg (by omega), if_neg (by omega)]
  · rw [xi_ge, sign_i, sign_i] at k2
    have h2 := hlt (by omega)
    refine RW.ps 1 rfl ?_
    refine RW.go ?_
    refine RW.re rfl rfl ⟨h1.1, h1.2, ?_⟩
    unfold cmpZ
    rw [if_pos h2]
theorem low_step {X k : Nat} (hk : k < 4) : X / 65536 ^ (k + 1) % 65536 ^ (4 - (k + 1)) * 65536 + d16 X k = X / 65536 ^ k % 65536 ^ (4 - k) := by
  have e : 65536 ^ (4 - k) = 65536 * 65536 ^ (4 - (k + 1)) := by rw [← Nat.pow_succ']; congr 1; omega
  have hd := d16_lt X k
  rw [e, d16_up X k, Nat.mod_mul]
  generalize X / 65536 ^ (k + 1) = q
  rw [show (q * 65536 + d16 X k) % 65536 = d16 X k by omega, show (q * 65536 + d16 X k) / 65536 = q by omega]
  generalize q % 65536 ^ (4 - (k + 1)) = g
  omega
theorem c_mlow (h : MI o Y z t p c) {a : Int32} : Ct y_M_low [.ref Y, .int a] o (MA o Y z t p (if okr a then 0 else 1) (if okr a then .long (Int64.ofInt (z (rx a))) else .long 0)) := by
  have h := MS.start h
  by_cases ha : ¬ okr a
  · rw [if_neg ha, if_neg ha]
    refine RW.ps 2 rfl ?_
    refine RW.cp rfl rfl rfl rfl rfl (c_isRegister a) ?_
    rw [if_neg ha]
    refine RW.ifc (fun _ => ?_) (fun k => absurd (xi_eq.mpr rfl) k)
    refine RW.ps 1 rfl ?_
    refine RW.pf h.y rfl rfl ?_
    have h1 : MS o (xpf o Y 0 (.int 1)) Y z t p 1 := h.code 1
    refine RW.ps 1 rfl ?_
    refine RW.gf h1.y h1.cd ?_
    refine RW.ifc (fun k => absurd (xi_le.mp k) (by decide)) (fun _ => ?_)
    refine RW.ps 1 rfl ?_
    exact RW.re rfl rfl ⟨h1.1, h1.2, rfl⟩
  have ha := Classical.not_not.mp ha
  rw [if_pos ha, if_pos ha]
  refine RW.ps 2 rfl ?_
  refine RW.cp rfl rfl rfl rfl rfl (c_isRegister a) ?_
  rw [if_pos ha]
  refine RW.ifc (fun k => absurd (xi_eq.mp k) (by decide)) (fun _ => ?_)
  refine RW.ps 1 rfl ?_
  refine RW.go ?_
  refine RW.pf h.y rfl rfl ?_
  have h1 : MS o (xpf o Y 0 (.int 0)) Y z t p 0 := h.code 0
  refine RW.ps 1 rfl ?_
  refine RW.gf h1.y h1.cd ?_
  refine RW.ifc (fun _ => ?_) (fun k => absurd (xi_le.mpr (by decide)) k)
  generalize xpf o Y 0 (.int 0) = o1 at h1 ⊢
  refine RW.weak (lv0 := [.ref Y, .int a, xj, xj, xj]) ⟨Or.inr rfl, Or.inr rfl, Or.inl rfl, Or.inl rfl, Or.inl rfl, trivial⟩ ?_
  refine RW.sk [] rfl ?_
  refine RW.ps 3 rfl ?_
  refine RW.gf h1.y h1.f3 ?_
  refine RW.cv rfl rfl (xrc_v rfl rfl h1.y) rfl rfl (c_mload h1 ha 3 (by decide)) ?_
  intro o2 ⟨h2, m2, f2⟩
  have sa2 := h2.sv ha
  generalize hx : z (rx a) = x at *
  have h39 : ∀ (k : Nat) (kw : Int32), k ≤ 4 → kw.toInt = (k : Int) - 1 → RW (MA o Y z t p 0 (.long (Int64.ofInt x))) y_M_low (xbk y_M_low 39) [.ref Y, .int a, .long (Int64.ofInt ((x.natAbs / 65536 ^ k % 65536 ^ (4 - k) : Nat) : Int)), xj, .int kw] [] o2 := by
    intro k
    induction k with
    | zero =>
      intro kw hk hkw
      rw [Nat.pow_zero, Nat.div_one, show (65536 : Nat) ^ (4 - 0) = 2 ^ 64 from rfl, ← li_mod]
      refine RW.ps 1 rfl ?_
      refine RW.ifc (fun _ => ?_) (fun k => ?_)
      rotate_left
      · rw [xi_lt, hkw, i0] at k; omega
      refine RW.ps 1 rfl ?_
      refine RW.gf h2.y h2.f2 ?_
      refine RW.ps 1 rfl ?_
      refine RW.ia h2.k2 ha.ix ha.lt ?_
      rw [sa2]
      refine RW.ifc (fun k2 => ?_) (fun k2 => ?_)
      · have k2 := sign_lt.mp k2
        refine RW.ps 1 rfl ?_
        rw [show (x.natAbs : Int) = x by omega]
        exact RW.re rfl rfl ⟨h2.1, h2.2, rfl⟩
      · have k2 : x < 0 := Int.not_le.mp (fun q => k2 (sign_lt.mpr q))
        refine RW.ps 2 rfl ?_
        refine RW.top (congrArg Value.long (l_neg (x.natAbs : Int))) ?_
        refine RW.go ?_
        rw [show -(x.natAbs : Int) = x by omega]
        exact RW.re rfl rfl ⟨h2.1, h2.2, rfl⟩
    | succ k ih =>
      intro kw hk hkw
      have hkk : kw.toInt = (k : Int) := by omega
      have hd := d16_lt x.natAbs k
      have hst := low_step (X := x.natAbs) (k := k) (by omega)
      have hVl : x.natAbs / 65536 ^ k % 65536 ^ (4 - k) < 2 ^ 64 := by
        refine Nat.lt_of_lt_of_le (Nat.mod_lt _ (pow16_pos _)) ?_
        rw [b16]; exact Nat.pow_le_pow_right (by decide) (by omega)
      refine RW.ps 1 rfl ?_
      refine RW.ifc (fun k => ?_) (fun _ => ?_)
      · rw [xi_lt, hkk, i0] at k; omega
      refine RW.ps 3 rfl ?_
      refine RW.top (congrArg Value.long (n_shl (k := 16) (y := 16) _ rfl (by decide))) ?_
      refine RW.ps 1 rfl ?_
      refine RW.gf h2.y h2.f3 ?_
      refine RW.ps 1 rfl ?_
      refine RW.cp rfl rfl rfl rfl rfl (c_mpart m2 (by decide) hkk) ?_
      refine RW.ps 1 rfl ?_
      refine RW.top (congrArg Value.long (ii_l (z := (d16 x.natAbs k : Nat)) (by omega) (by omega))) ?_
      refine RW.ps 1 rfl ?_
      refine RW.top (congrArg Value.long (n_or (a := x.natAbs / 65536 ^ (k + 1) % 65536 ^ (4 - (k + 1))) (b := d16 x.natAbs k) (k := 16) hd (by omega))) ?_
      refine RW.ps 2 rfl ?_
      refine RW.go ?_
      refine RW.weak (lv0 := [.ref Y, .int a, .long (Int64.ofInt ((x.natAbs / 65536 ^ k % 65536 ^ (4 - k) : Nat) : Int)), xj, .int (kw + (-1))]) ⟨Or.inr rfl, Or.inr rfl, Or.inr (by rw [← hst]), Or.inl rfl, Or.inr rfl, trivial⟩ ?_
      refine RW.sk [] rfl ?_
      exact ih (kw + (-1)) (by omega) (by rw [← Int32.sub_eq_add_neg]; exact i_subnat hkk (by omega))
  refine RW.ps 4 rfl ?_
  refine RW.weak (lv0 := [.ref Y, .int a, .long (Int64.ofInt ((x.natAbs / 65536 ^ 4 % 65536 ^ (4 - 4) : Nat) : Int)), xj, .int 3]) ⟨Or.inr rfl, Or.inr rfl, Or.inr (by rw [show 65536 ^ (4 - 4) = 1 from rfl, Nat.mod_one]; rfl), Or.inl rfl, Or.inr rfl, trivial⟩ ?_
  refine RW.sk [] rfl ?_
  exact h39 4 3 (Nat.le_refl _) rfl
theorem c_mlength (h : MI o Y z t p c) {a : Int32} : Ct y_M_length [.ref Y, .int a] o (MA o Y z t p (if okr a then 0 else 1) (if okr a then .int (Int32.ofInt (nbit (core (z (rx a))) : Nat)) else .int 0)) := by
  have h := MS.start h
  by_cases ha : ¬ okr a
  · rw [if_neg ha, if_neg ha]
    refine RW.ps 2 rfl ?_
    refine RW.cp rfl rfl rfl rfl rfl (c_isRegister a) ?_
    rw [if_neg ha]
    refine RW.ifc (fun _ => ?_) (fun k => absurd (xi_eq.mpr rfl) k)
    refine RW.ps 1 rfl ?_
    refine RW.pf h.y rfl rfl ?_
    have h1 : MS o (xpf o Y 0 (.int 1)) Y z t p 1 := h.code 1
    refine RW.ps 1 rfl ?_
    refine RW.gf h1.y h1.cd ?_
    refine RW.ifc (fun k => absurd (xi_le.mp k) (by decide)) (fun _ => ?_)
    refine RW.ps 1 rfl ?_
    refine RW.go ?_
    exact RW.re rfl rfl ⟨h1.1, h1.2, rfl⟩
  have ha := Classical.not_not.mp ha
  rw [if_pos ha, if_pos ha]
  refine RW.ps 2 rfl ?_
  refine RW.cp rfl rfl rfl rfl rfl (c_isRegister a) ?_
  rw [if_pos ha]
  refine RW.ifc (fun k => absurd (xi_eq.mp k) (by decide)) (fun _ => ?_)
  refine RW.ps 1 rfl ?_
  refine RW.go ?_
  refine RW.pf h.y rfl rfl ?_
  have h1 : MS o (xpf o Y 0 (.int 0)) Y z t p 0 := h.code 0
  refine RW.ps 1 rfl ?_
  refine RW.gf h1.y h1.cd ?_
  refine RW.ifc (fun _ => ?_) (fun k => absurd (xi_le.mpr (by decide)) k)
  generalize xpf o Y 0 (.int 0) = o1 at h1 ⊢
  refine RW.ps 2 rfl ?_
  refine RW.cq rfl rfl (xrc_v rfl rfl h1.y) rfl rfl (c_needs h1 ha) ?_
  intro v o2 ⟨hv, h2, m2, f2⟩
  subst hv
  exact RW.re rfl rfl ⟨h2.1, h2.2, rfl⟩
theorem c_mbit (h : MI o Y z t p c) {a i : Int32} : Ct y_M_bit [.ref Y, .int a, .int i] o (MA o Y z t p (if okr a ∧ 0 ≤ i.toInt then 0 else 1) (if okr a ∧ 0 ≤ i.toInt then .int (sg (bitz (z (rx a)) i)) else .int 0)) := by
  have h := MS.start h
  have hi2 := i.toInt_lt
  have hbad : ¬ (okr a ∧ 0 ≤ i.toInt) → RW (MA o Y z t p (if okr a ∧ 0 ≤ i.toInt then 0 else 1) (if okr a ∧ 0 ≤ i.toInt then .int (sg (bitz (z (rx a)) i)) else .int 0)) y_M_bit (xbk y_M_bit 16) [.ref Y] [.ref Y] o := by
    intro hno
    refine RW.ps 1 rfl ?_
    refine RW.pf h.y rfl rfl ?_
    have h1 : MS o (xpf o Y 0 (.int 1)) Y z t p 1 := h.code 1
    refine RW.ps 1 rfl ?_
    refine RW.gf h1.y h1.cd ?_
    refine RW.ifc (fun k => absurd (xi_le.mp k) (by decide)) (fun _ => ?_)
    refine RW.ps 1 rfl ?_
    exact RW.re rfl rfl ⟨h1.1, by rw [if_neg hno]; exact h1.2, by rw [if_neg hno]⟩
  refine RW.ps 2 rfl ?_
  by_cases ha : ¬ okr a
  · refine RW.cp rfl rfl rfl rfl rfl (c_isRegister a) ?_
    rw [if_neg ha]
    refine RW.ifc (fun _ => ?_) (fun k => absurd (xi_eq.mpr rfl) k)
    refine RW.weak (lv0 := [.ref Y]) ⟨Or.inr rfl, trivial⟩ ?_
    exact hbad (fun k => ha k.1)
  have ha := Classical.not_not.mp ha
  refine RW.cp rfl rfl rfl rfl rfl (c_isRegister a) ?_
  rw [if_pos ha]
  refine RW.ifc (fun k => absurd (xi_eq.mp k) (by decide)) (fun _ => ?_)
  refine RW.ps 1 rfl ?_
  refine RW.ifc (fun k => ?_) (fun k => ?_)
  · rw [xi_lt, i0] at k
    refine RW.weak (lv0 := [.ref Y]) ⟨Or.inr rfl, trivial⟩ ?_
    exact hbad (fun q => by have := q.2; omega)
  rw [xi_lt, i0] at k
  have hi0 : 0 ≤ i.toInt := by omega
  refine RW.ps 1 rfl ?_
  refine RW.go ?_
  refine RW.pf h.y rfl rfl ?_
  have h1 : MS o (xpf o Y 0 (.int 0)) Y z t p 0 := h.code 0
  refine RW.ps 1 rfl ?_
  refine RW.gf h1.y h1.cd ?_
  refine RW.ifc (fun _ => ?_) (fun k => absurd (xi_le.mpr (by decide)) k)
  generalize xpf o Y 0 (.int 0) = o1 at h1 ⊢
  rw [if_pos ⟨ha, hi0⟩, if_pos ⟨ha, hi0⟩]
  clear hbad
  have hcb := nbit_le.mpr (Nat.lt_of_le_of_lt (core_le _) (h1.top ha))
  refine RW.weak (lv0 := [.ref Y, .int a, .int i, xj]) ⟨Or.inr rfl, Or.inr rfl, Or.inr rfl, Or.inl rfl, trivial⟩ ?_
  refine RW.sk [] rfl ?_
  refine RW.ps 2 rfl ?_
  refine RW.cq rfl rfl (xrc_v rfl rfl h1.y) rfl rfl (c_needs h1 ha) ?_
  intro v o2 ⟨hv, h2, m2, f2⟩
  subst hv
  have sa2 := h2.sv ha
  unfold bitz
  generalize hx : z (rx a) = x at *
  have h70 : ∀ cc bb : Bool, cc = decide (core x / 2 ^ i.toInt.toNat % 2 = 1) → bb = neg x → RW (MA o Y z t p 0 (.int (sg (decide (core x / 2 ^ i.toInt.toNat % 2 = 1) != neg x)))) y_M_bit (xbk y_M_bit 70) [] [.int (sg bb), .int (sg cc)] o2 := by
    intro cc bb hcc hbb
    subst hcc
    subst hbb
    refine RW.icm (fun k => ?_) (fun k => ?_)
    · rw [xi_eq, sg_eq] at k
      refine RW.ps 1 rfl ?_
      rw [show (decide (core x / 2 ^ i.toInt.toNat % 2 = 1) != neg x) = false by rw [k]; simp]
      exact RW.re rfl rfl ⟨h2.1, h2.2, rfl⟩
    · rw [xi_eq, sg_eq] at k
      refine RW.ps 1 rfl ?_
      refine RW.go ?_
      rw [bne_iff_ne.mpr k]
      exact RW.re rfl rfl ⟨h2.1, h2.2, rfl⟩
  have h56 : ∀ cc : Bool, cc = decide (core x / 2 ^ i.toInt.toNat % 2 = 1) → RW (MA o Y z t p 0 (.int (sg (decide (core x / 2 ^ i.toInt.toNat % 2 = 1) != neg x)))) y_M_bit (xbk y_M_bit 56) [.ref Y, .int a, .int i, xj] [.int (sg cc)] o2 := by
    intro cc hcc
    refine RW.ps 1 rfl ?_
    refine RW.gf h2.y h2.f2 ?_
    refine RW.ps 1 rfl ?_
    refine RW.ia h2.k2 ha.ix ha.lt ?_
    rw [sa2]
    rcases sgn_cases x with ⟨hs1, hs2⟩ | ⟨hs1, hs2⟩
    · refine RW.ifc (fun k => ?_) (fun _ => ?_)
      · have := sign_lt.mp k; omega
      refine RW.ps 1 rfl ?_
      refine RW.go ?_
      refine RW.weak (lv0 := []) trivial ?_
      refine RW.sk [.int (sg true), .int (sg cc)] rfl ?_
      exact h70 cc true hcc hs1.symm
    · refine RW.ifc (fun _ => ?_) (fun k => absurd (sign_lt.mpr hs2) k)
      refine RW.ps 1 rfl ?_
      refine RW.weak (lv0 := []) trivial ?_
      refine RW.sk [.int (sg false), .int (sg cc)] rfl ?_
      exact h70 cc false hcc hs1.symm
  refine RW.ps 3 rfl ?_
  refine RW.icm (fun k2 => ?_) (fun k2 => ?_)
  · rw [xi_ge, iu (by omega)] at k2
    refine RW.ps 1 rfl ?_
    refine RW.weak (lv0 := [.ref Y, .int a, .int i, xj]) ⟨Or.inr rfl, Or.inr rfl, Or.inr rfl, Or.inl rfl, trivial⟩ ?_
    refine RW.sk [.int (sg false)] rfl ?_
    refine h56 false (decide_eq_false (fun q => ?_)).symm
    have := nbit_at q
    omega
  rw [xi_ge, iu (by omega)] at k2
  refine RW.ps 1 rfl ?_
  refine RW.gf h2.y h2.f7 ?_
  refine RW.ps 1 rfl ?_
  refine RW.cp rfl rfl rfl rfl rfl (c_bitOf16 (i := i.toInt.toNat) m2 (by decide) (by omega)) ?_
  refine RW.ifc (fun k3 => ?_) (fun k3 => ?_)
  · refine RW.ps 1 rfl ?_
    refine RW.weak (lv0 := [.ref Y, .int a, .int i, xj]) ⟨Or.inr rfl, Or.inr rfl, Or.inr rfl, Or.inl rfl, trivial⟩ ?_
    refine RW.sk [.int (sg false)] rfl ?_
    exact h56 false (sg_bool.mp k3).symm
  · refine RW.ps 1 rfl ?_
    refine RW.go ?_
    refine RW.weak (lv0 := [.ref Y, .int a, .int i, xj]) ⟨Or.inr rfl, Or.inr rfl, Or.inr rfl, Or.inl rfl, trivial⟩ ?_
    refine RW.sk [.int (sg true)] rfl ?_
    exact h56 true (sgt k3).symm
theorem pc_1 (y : Nat) : pc 1 y = y % 2 := by simp [pc]
theorem c_mones (h : MI o Y z t p c) {a : Int32} : Ct y_M_ones [.ref Y, .int a] o (MA o Y z t p (if okr a then 0 else 1) (if okr a then .int (Int32.ofInt (pc (nbit (core (z (rx a)))) (core (z (rx a))) : Nat)) else .int 0)) := by
  have h := MS.start h
  by_cases ha : ¬ okr a
  · rw [if_neg ha, if_neg ha]
    refine RW.ps 2 rfl ?_
    refine RW.cp rfl rfl rfl rfl rfl (c_isRegister a) ?_
    rw [if_neg ha]
    refine RW.ifc (fun _ => ?_) (fun k => absurd (xi_eq.mpr rfl) k)
    refine RW.ps 1 rfl ?_
    refine RW.pf h.y rfl rfl ?_
    have h1 : MS o (xpf o Y 0 (.int 1)) Y z t p 1 := h.code 1
    refine RW.ps 1 rfl ?_
    refine RW.gf h1.y h1.cd ?_
    refine RW.ifc (fun k => absurd (xi_le.mp k) (by decide)) (fun _ => ?_)
    refine RW.ps 1 rfl ?_
    exact RW.re rfl rfl ⟨h1.1, h1.2, rfl⟩
  have ha := Classical.not_not.mp ha
  rw [if_pos ha, if_pos ha]
  refine RW.ps 2 rfl ?_
  refine RW.cp rfl rfl rfl rfl rfl (c_isRegister a) ?_
  rw [if_pos ha]
  refine RW.ifc (fun k => absurd (xi_eq.mp k) (by decide)) (fun _ => ?_)
  refine RW.ps 1 rfl ?_
  refine RW.go ?_
  refine RW.pf h.y rfl rfl ?_
  have h1 : MS o (xpf o Y 0 (.int 0)) Y z t p 0 := h.code 0
  refine RW.ps 1 rfl ?_
  refine RW.gf h1.y h1.cd ?_
  refine RW.ifc (fun _ => ?_) (fun k => absurd (xi_le.mpr (by decide)) k)
  generalize xpf o Y 0 (.int 0) = o1 at h1 ⊢
  have hcb := nbit_le.mpr (Nat.lt_of_le_of_lt (core_le _) (h1.top ha))
  refine RW.weak (lv0 := [.ref Y, .int a, xj, xj, xj]) ⟨Or.inr rfl, Or.inr rfl, Or.inl rfl, Or.inl rfl, Or.inl rfl, trivial⟩ ?_
  refine RW.sk [] rfl ?_
  refine RW.ps 2 rfl ?_
  refine RW.cq rfl rfl (xrc_v rfl rfl h1.y) rfl rfl (c_needs h1 ha) ?_
  intro v o2 ⟨hv, h2, m2, f2⟩
  subst hv
  generalize core (z (rx a)) = x at *
  have h36 : ∀ q i (iw : Int32), i + q = nbit x → iw.toInt = (i : Int) → RW (MA o Y z t p 0 (.int (Int32.ofInt (pc (nbit x) x : Nat)))) y_M_ones (xbk y_M_ones 36) [.ref Y, .int a, .int (Int32.ofInt (nbit x : Nat)), .int (Int32.ofInt (pc i x : Nat)), .int iw] [] o2 := by
    intro q
    induction q with
    | zero =>
      intro i iw hi hiw
      refine RW.ps 2 rfl ?_
      refine RW.icm (fun _ => ?_) (fun k => ?_)
      rotate_left
      · rw [xi_ge, iu (by omega), hiw] at k; omega
      refine RW.ps 1 rfl ?_
      rw [show i = nbit x by omega]
      exact RW.re rfl rfl ⟨h2.1, h2.2, rfl⟩
    | succ q ih =>
      intro i iw hi hiw
      have hpc : pc (i + 1) x = pc i x + x / 2 ^ i % 2 := by rw [pc_add, pc_1]
      refine RW.ps 2 rfl ?_
      refine RW.icm (fun k => ?_) (fun _ => ?_)
      · rw [xi_ge, iu (by omega), hiw] at k; omega
      refine RW.ps 2 rfl ?_
      refine RW.gf h2.y h2.f7 ?_
      refine RW.ps 1 rfl ?_
      refine RW.cp rfl rfl rfl rfl rfl (c_bitOf16 m2 (by decide) hiw) ?_
      have h60 : ∀ cc : Bool, cc = decide (x / 2 ^ i % 2 = 1) → RW (MA o Y z t p 0 (.int (Int32.ofInt (pc (nbit x) x : Nat)))) y_M_ones (xbk y_M_ones 60) [.ref Y, .int a, .int (Int32.ofInt (nbit x : Nat)), xj, .int iw] [.int (sg cc), .int (Int32.ofInt (pc i x : Nat))] o2 := by
        intro cc hcc
        have hsg : Int32.ofInt (pc i x : Nat) + sg cc = Int32.ofInt (pc (i + 1) x : Nat) := by
          rw [hpc]
          by_cases hb : x / 2 ^ i % 2 = 1
          · rw [hcc, decide_eq_true hb, hb]; exact is1 _
          · rw [hcc, decide_eq_false hb, show x / 2 ^ i % 2 = 0 by omega, Nat.add_zero]
            show Int32.ofInt (pc i x : Nat) + 0 = _
            rw [Int32.add_zero]
        refine RW.ps 3 rfl ?_
        refine RW.go ?_
        refine RW.weak (lv0 := [.ref Y, .int a, .int (Int32.ofInt (nbit x : Nat)), .int (Int32.ofInt (pc (i + 1) x : Nat)), .int (iw + 1)]) ⟨Or.inr rfl, Or.inr rfl, Or.inr rfl, Or.inr (congrArg Value.int hsg.symm), Or.inr rfl, trivial⟩ ?_
        refine RW.sk [] rfl ?_
        exact ih (i + 1) (iw + 1) (by omega) (i_succ hiw (by omega))
      refine RW.ifc (fun k => ?_) (fun k => ?_)
      · refine RW.ps 1 rfl ?_
        refine RW.weak (lv0 := [.ref Y, .int a, .int (Int32.ofInt (nbit x : Nat)), xj, .int iw]) ⟨Or.inr rfl, Or.inr rfl, Or.inr rfl, Or.inl rfl, Or.inr rfl, trivial⟩ ?_
        refine RW.sk [.int (sg false), .int (Int32.ofInt (pc i x : Nat))] rfl ?_
        exact h60 false (sg_bool.mp k).symm
      · refine RW.ps 1 rfl ?_
        refine RW.go ?_
        refine RW.weak (lv0 := [.ref Y, .int a, .int (Int32.ofInt (nbit x : Nat)), xj, .int iw]) ⟨Or.inr rfl, Or.inr rfl, Or.inr rfl, Or.inl rfl, Or.inr rfl, trivial⟩ ?_
        refine RW.sk [.int (sg true), .int (Int32.ofInt (pc i x : Nat))] rfl ?_
        exact h60 true (sgt k).symm
  refine RW.ps 5 rfl ?_
  refine RW.weak (lv0 := [.ref Y, .int a, .int (Int32.ofInt (nbit x : Nat)), .int (Int32.ofInt (pc 0 x : Nat)), .int 0]) ⟨Or.inr rfl, Or.inr rfl, Or.inr rfl, Or.inr rfl, Or.inr rfl, trivial⟩ ?_
  refine RW.sk [] rfl ?_
  exact h36 (nbit x) 0 0 (Nat.zero_add _) rfl
end C10
