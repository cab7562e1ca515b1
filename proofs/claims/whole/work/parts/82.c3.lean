/-! THE REFERENCE'S CALLS: divide. -/
theorem mkz_sign {n : Nat} {b : Bool} (h : mkz n b ≠ 0) : (mkz n b).sign = if b = true then -1 else 1 := by
  cases b with
  | false => rw [if_neg Bool.false_ne_true]; exact Int.sign_eq_one_of_pos (by have : mkz n false = (n : Int) := rfl; omega)
  | true => rw [if_pos rfl]; exact Int.sign_eq_neg_one_of_neg (by have : mkz n true = -(n : Int) := rfl; omega)
theorem neg_sign {x : Int} (h : x ≠ 0) : x.sign = if neg x = true then -1 else 1 := by
  rcases sgn_cases x with ⟨h1, h2⟩ | ⟨h1, h2⟩
  · rw [h1, if_pos rfl]; exact Int.sign_eq_neg_one_of_neg h2
  · rw [h1, if_neg Bool.false_ne_true]; exact Int.sign_eq_one_of_pos (by omega)
theorem sign_prod {x y : Int} (hx : x ≠ 0) (hy : y ≠ 0) : x.sign * y.sign = if (neg x != neg y) = true then -1 else 1 := by
  rw [neg_sign hx, neg_sign hy]
  cases neg x <;> cases neg y <;> decide
theorem sign_same {x y : Int} (hx : x ≠ 0) (hy : y ≠ 0) : x.sign = y.sign ↔ neg x = neg y := by
  rw [neg_sign hx, neg_sign hy]
  cases neg x <;> cases neg y <;> decide
section C3
variable {o0 o o' : xO} {Y c : Nat} {z : Nat → Int} {t p : List Int32}
theorem c_mdivide (h : MI o Y z t p c) {r a b m : Int32} : Ct y_M_divide [.ref Y, .int r, .int a, .int b, .int m] o (MV o Y (s_divide z r a b m) t p) := by
  have h := MS.start h
  have h51 : ∀ (cw : Int32) (c2 : Nat), cw = Int32.ofInt (c2 : Nat) → 0 < c2 → c2 < 3 → s_divide z r a b m = (c2, z) → RW (MV o Y (s_divide z r a b m) t p) y_M_divide (xbk y_M_divide 51) [.ref Y] [.int cw, .ref Y] o := by
    intro cw c2 hcw hc1 hc2 hsp
    subst hcw
    refine RW.pf h.y rfl rfl ?_
    have h1 := h.code c2
    refine RW.ps 1 rfl ?_
    refine RW.gf h1.y h1.cd ?_
    refine RW.ifc (fun k => ?_) (fun _ => ?_)
    · rw [xi_le, iu (by omega), i0] at k; omega
    exact RW.re rfl rfl (h1.mv hsp)
  have hbad : ¬ (okr r ∧ okr a ∧ okr b ∧ 0 ≤ m.toInt ∧ m.toInt ≤ 3) → RW (MV o Y (s_divide z r a b m) t p) y_M_divide (xbk y_M_divide 33) [.ref Y] [.ref Y] o := by
    intro hno
    refine RW.ps 1 rfl ?_
    refine RW.go ?_
    exact h51 1 1 rfl (by decide) (by decide) (if_neg hno)
  refine RW.ps 2 rfl ?_
  by_cases hr : ¬ okr r
  · refine RW.cp rfl rfl rfl rfl rfl (c_isRegister r) ?_
    rw [if_neg hr]
    refine RW.ifc (fun _ => ?_) (fun k => absurd (xi_eq.mpr rfl) k)
    refine RW.weak (lv0 := [.ref Y]) ⟨Or.inr rfl, trivial⟩ ?_
    exact hbad (fun k => hr k.1)
  have hr := Classical.not_not.mp hr
  refine RW.cp rfl rfl rfl rfl rfl (c_isRegister r) ?_
  rw [if_pos hr]
  refine RW.ifc (fun k => absurd (xi_eq.mp k) (by decide)) (fun _ => ?_)
  refine RW.ps 1 rfl ?_
  by_cases ha : ¬ okr a
  · refine RW.cp rfl rfl rfl rfl rfl (c_isRegister a) ?_
    rw [if_neg ha]
    refine RW.ifc (fun _ => ?_) (fun k => absurd (xi_eq.mpr rfl) k)
    refine RW.weak (lv0 := [.ref Y]) ⟨Or.inr rfl, trivial⟩ ?_
    exact hbad (fun k => ha k.2.1)
  have ha := Classical.not_not.mp ha
  refine RW.cp rfl rfl rfl rfl rfl (c_isRegister a) ?_
  rw [if_pos ha]
  refine RW.ifc (fun k => absurd (xi_eq.mp k) (by decide)) (fun _ => ?_)
  refine RW.ps 1 rfl ?_
  by_cases hb : ¬ okr b
  · refine RW.cp rfl rfl rfl rfl rfl (c_isRegister b) ?_
    rw [if_neg hb]
    refine RW.ifc (fun _ => ?_) (fun k => absurd (xi_eq.mpr rfl) k)
    refine RW.weak (lv0 := [.ref Y]) ⟨Or.inr rfl, trivial⟩ ?_
    exact hbad (fun k => hb k.2.2.1)
  have hb := Classical.not_not.mp hb
  refine RW.cp rfl rfl rfl rfl rfl (c_isRegister b) ?_
  rw [if_pos hb]
  refine RW.ifc (fun k => absurd (xi_eq.mp k) (by decide)) (fun _ => ?_)
  refine RW.ps 1 rfl ?_
  refine RW.ifc (fun k => ?_) (fun k => ?_)
  · rw [xi_lt, i0] at k
    refine RW.weak (lv0 := [.ref Y]) ⟨Or.inr rfl, trivial⟩ ?_
    exact hbad (fun q => by have := q.2.2.2.1; omega)
  rw [xi_lt, i0] at k
  have h37 : m.toInt ≤ 3 → RW (MV o Y (s_divide z r a b m) t p) y_M_divide (xbk y_M_divide 37) [.ref Y, .int r, .int a, .int b, .int m, xj, xj, xj] [.ref Y] o := by
    intro k2
    have hsp : s_divide z r a b m = (if z (rx b) = 0 then (2, z) else (0, upz z (rx r) (dv m (z (rx a)) (z (rx b))))) := if_pos ⟨hr, ha, hb, by omega, k2⟩
    refine RW.ps 1 rfl ?_
    refine RW.gf h.y h.f2 ?_
    refine RW.ps 1 rfl ?_
    refine RW.ia h.k2 hb.ix hb.lt ?_
    rw [h.sv hb]
    refine RW.ifc (fun k3 => ?_) (fun k3 => ?_)
    rotate_left
    · rw [xi_ne, sign_i, i0, ne_eq, Int.sign_eq_zero_iff_zero] at k3
      have k3 := Classical.not_not.mp k3
      refine RW.ps 1 rfl ?_
      refine RW.go ?_
      refine RW.weak (lv0 := [.ref Y]) ⟨Or.inr rfl, trivial⟩ ?_
      exact h51 2 2 rfl (by decide) (by decide) (by rw [hsp, if_pos k3])
    rw [xi_ne, sign_i, i0, ne_eq, Int.sign_eq_zero_iff_zero] at k3
    rw [if_neg k3] at hsp
    rw [hsp]
    clear h51 hbad hsp
    refine RW.ps 1 rfl ?_
    refine RW.pf h.y rfl rfl ?_
    have h1 : MS o (xpf o Y 0 (.int 0)) Y z t p 0 := h.code 0
    refine RW.ps 1 rfl ?_
    refine RW.gf h1.y h1.cd ?_
    refine RW.ifc (fun _ => ?_) (fun k => absurd (xi_le.mpr (by decide)) k)
    generalize xpf o Y 0 (.int 0) = o1 at h1 ⊢
    refine RW.weak (lv0 := [.ref Y, .int r, .int a, .int b, .int m, xj, xj, xj]) ⟨Or.inr rfl, Or.inr rfl, Or.inr rfl, Or.inr rfl, Or.inr rfl, Or.inl rfl, Or.inl rfl, Or.inl rfl, trivial⟩ ?_
    refine RW.sk [] rfl ?_
    refine RW.ps 3 rfl ?_
    refine RW.gf h1.y h1.f3 ?_
    refine RW.cv rfl rfl (xrc_v rfl rfl h1.y) rfl rfl (c_mload h1 ha 3 (by decide)) ?_
    intro o2 ⟨h2, m2, f2⟩
    refine RW.ps 3 rfl ?_
    refine RW.gf h2.y h2.f4 ?_
    refine RW.cv rfl rfl (xrc_v rfl rfl h2.y) rfl rfl (c_mload h2 hb 4 (by decide)) ?_
    intro o3 ⟨h3, m4, f3⟩
    have m3 := m2.fr1 f3 (by omega)
    have na := h3.n ha
    have nb := h3.n hb
    have ta := h3.top ha
    have tb := h3.top hb
    generalize hx : z (rx a) = x at *
    generalize hy : z (rx b) = y at *
    have hy0 : 0 < y.natAbs := by omega
    refine RW.weak (lv0 := [.ref Y, .int r, .int a, .int b, .int m, xj, xj, xj]) ⟨Or.inr rfl, Or.inr rfl, Or.inr rfl, Or.inr rfl, Or.inr rfl, Or.inl rfl, Or.inl rfl, Or.inl rfl, trivial⟩ ?_
    refine RW.sk [] rfl ?_
    refine RW.ps 2 rfl ?_
    refine RW.gf h3.y h3.f3 ?_
    refine RW.ps 1 rfl ?_
    refine RW.gf h3.y h3.f4 ?_
    refine RW.cv rfl rfl (xrc_v rfl rfl h3.y) rfl rfl (c_divideRows h3.2.1 m3 m4 (by omega) (by omega) hy0 (by omega) (by omega)) ?_
    intro o4 ⟨f4, q4, r4⟩
    have h4 := h3.scr f4 (by omega) (by omega)
    have m4 := m4.fr1 f4 (by omega)
    have sva := h4.sv ha
    have svb := h4.sv hb
    rw [hx] at sva
    rw [hy] at svb
    have hdm := Nat.div_add_mod x.natAbs y.natAbs
    have hlt := Nat.mod_lt x.natAbs hy0
    have hq1 : x.natAbs / y.natAbs ≤ y.natAbs * (x.natAbs / y.natAbs) := by
      have := Nat.mul_le_mul_right (x.natAbs / y.natAbs) (show 1 ≤ y.natAbs by omega)
      omega
    refine RW.weak (lv0 := [.ref Y, .int r, .int a, .int b, .int m, xj, xj, xj]) ⟨Or.inr rfl, Or.inr rfl, Or.inr rfl, Or.inr rfl, Or.inr rfl, Or.inl rfl, Or.inl rfl, Or.inl rfl, trivial⟩ ?_
    refine RW.sk [] rfl ?_
    refine RW.ps 1 rfl ?_
    refine RW.gf h4.y h4.f2 ?_
    refine RW.ps 1 rfl ?_
    refine RW.ia h4.k2 ha.ix ha.lt ?_
    rw [sva]
    refine RW.ps 2 rfl ?_
    refine RW.gf h4.y h4.f2 ?_
    refine RW.ps 1 rfl ?_
    refine RW.ia h4.k2 hb.ix hb.lt ?_
    rw [svb]
    refine RW.ps 3 rfl ?_
    refine RW.weak (lv0 := [.ref Y, .int r, .int a, .int b, .int m, .int (Int32.ofInt x.sign), .int (Int32.ofInt y.sign), xj]) ⟨Or.inr rfl, Or.inr rfl, Or.inr rfl, Or.inr rfl, Or.inr rfl, Or.inr rfl, Or.inr rfl, Or.inl rfl, trivial⟩ ?_
    have h135 : ∀ cc : Bool, cc = dnb m x y → RW (MV o Y (0, upz z (rx r) (dv m x y)) t p) y_M_divide (xbk y_M_divide 135) [.ref Y, .int r, .int a, .int b, .int m, .int (Int32.ofInt x.sign), .int (Int32.ofInt y.sign), xj] [.int (sg cc)] o4 := by
      intro cc hcc
      subst hcc
      have hm4 : m = Int32.ofInt ((m.toInt.toNat : Nat) : Int) := by rw [show ((m.toInt.toNat : Nat) : Int) = m.toInt by omega, Int32.ofInt_toInt]
      have e5 : ∀ n : Nat, n < 4 → m = Int32.ofInt (n : Int) → m - m / 2 * 2 = Int32.ofInt ((n % 2 : Nat) : Int) := by
        intro n hn e
        rw [e, show (2 : Int32) = Int32.ofInt ((2 : Nat) : Int) by decide]
        exact i_rem (by omega) (by decide)
      refine RW.ps 3 rfl ?_
      refine RW.irm (by decide) ?_
      refine RW.top (congrArg Value.int (e5 m.toInt.toNat (by omega) hm4)) ?_
      refine RW.weak (lv0 := [.ref Y, .int r, .int a, .int b, .int m, .int (Int32.ofInt x.sign), .int (Int32.ofInt y.sign), .int (sg (dnb m x y))]) ⟨Or.inr rfl, Or.inr rfl, Or.inr rfl, Or.inr rfl, Or.inr rfl, Or.inr rfl, Or.inr rfl, Or.inr rfl, trivial⟩ ?_
      refine RW.ifc (fun k4 => ?_) (fun k4 => ?_)
      · rw [xi_ne, iu (by omega), i0] at k4
        have hm2 : ¬ (m.toInt = 0 ∨ m.toInt = 2) := by omega
        refine RW.ps 1 rfl ?_
        refine RW.ifc (fun k5 => ?_) (fun k5 => ?_)
        · rw [sg_bool] at k5
          have hdv : dv m x y = mkz (x.natAbs % y.natAbs) (neg x) := by unfold dv; rw [if_neg hm2, if_neg (by rw [k5]; decide)]
          have habs : (dv m x y).natAbs = x.natAbs % y.natAbs := by rw [hdv, mkz_abs]
          have r4 : Mn o4 (Y + 10) 1200 (dv m x y).natAbs := by rw [habs]; exact r4
          refine RW.ps 3 rfl ?_
          refine RW.gf h4.y h4.f10 ?_
          refine RW.ps 1 rfl ?_
          refine RW.cv rfl rfl (xrc_v rfl rfl h4.y) rfl rfl (c_keep h4 hr.ix hr.lt r4 (by decide) (by omega) (by omega) (by rw [habs]; omega) (fun hne => by rw [hdv] at hne ⊢; rw [mkz_sign hne, neg_sign (fun hx0 => by rw [hx0] at hne; exact hne (by show mkz ((0 : Int).natAbs % y.natAbs) _ = 0; rw [show (0 : Int).natAbs = 0 from rfl, Nat.zero_mod]; cases neg 0 <;> rfl))])) ?_
          intro o5 h5
          exact RW.re rfl rfl (h5.mv rfl)
        · have hdn := sgt k5
          have hdv : dv m x y = mkz (y.natAbs - x.natAbs % y.natAbs) (neg y) := by unfold dv; rw [if_neg hm2, if_pos hdn]
          have habs : (dv m x y).natAbs = y.natAbs - x.natAbs % y.natAbs := by rw [hdv, mkz_abs]
          refine RW.ps 1 rfl ?_
          refine RW.gf h4.y h4.f4 ?_
          refine RW.ps 1 rfl ?_
          refine RW.gf h4.y h4.f10 ?_
          refine RW.cv rfl rfl rfl rfl rfl (c_takeFrom m4 r4 (by decide) (by decide) (by omega) (by omega)) ?_
          intro o5 ⟨f5, m5⟩
          have h5 := h4.scr f5 (by omega) (by omega)
          have m5 : Mn o5 (Y + 4) 1200 (dv m x y).natAbs := by rw [habs]; exact m5
          refine RW.ps 3 rfl ?_
          refine RW.gf h5.y h5.f4 ?_
          refine RW.ps 1 rfl ?_
          refine RW.cv rfl rfl (xrc_v rfl rfl h5.y) rfl rfl (c_keep h5 hr.ix hr.lt m5 (by decide) (by omega) (by omega) (by rw [habs]; omega) (fun hne => by rw [hdv] at hne ⊢; rw [mkz_sign hne, neg_sign k3])) ?_
          intro o6 h6
          refine RW.go ?_
          exact RW.re rfl rfl (h6.mv rfl)
      · rw [xi_ne, iu (by omega), i0] at k4
        have hm2 : m.toInt = 0 ∨ m.toInt = 2 := by omega
        have hdv : dv m x y = mkz (x.natAbs / y.natAbs + (if dnb m x y = true then 1 else 0)) (neg x != neg y) := by unfold dv; rw [if_pos hm2]
        have h157 : ∀ o5, MS o o5 Y z t p 0 → Mn o5 (Y + 9) 1200 (x.natAbs / y.natAbs + (if dnb m x y = true then 1 else 0)) → RW (MV o Y (0, upz z (rx r) (dv m x y)) t p) y_M_divide (xbk y_M_divide 157) [.ref Y, .int r, xj, xj, xj, .int (Int32.ofInt x.sign), .int (Int32.ofInt y.sign), xj] [] o5 := by
          intro o5 h5 q5
          have habs : (dv m x y).natAbs = x.natAbs / y.natAbs + (if dnb m x y = true then 1 else 0) := by rw [hdv, mkz_abs]
          have q5 : Mn o5 (Y + 9) 1200 (dv m x y).natAbs := by rw [habs]; exact q5
          have hT : (dv m x y).natAbs < TOP := by
            rw [habs]
            by_cases hc : dnb m x y = true
            · rw [if_pos hc]
              have : x.natAbs % y.natAbs ≠ 0 := by
                unfold dnb at hc
                rw [Bool.and_eq_true, decide_eq_true_eq] at hc
                exact hc.2
              omega
            · rw [if_neg hc]; omega
          have hsg : dv m x y ≠ 0 → Int32.ofInt (x.sign * y.sign) = Int32.ofInt (dv m x y).sign := by
            intro hne
            rw [hdv] at hne ⊢
            rw [mkz_sign hne, sign_prod ?_ k3]
            intro hx0
            refine hne ?_
            have hd0 : dnb m x y = false := by unfold dnb; rw [hx0]; simp
            rw [hd0, hx0, show (0 : Int).natAbs = 0 from rfl, Nat.zero_div, if_neg Bool.false_ne_true]
            cases (neg 0 != neg y) <;> rfl
          refine RW.ps 3 rfl ?_
          refine RW.gf h5.y h5.f9 ?_
          refine RW.ps 3 rfl ?_
          refine RW.top (congrArg Value.int ((show Int32.ofInt x.sign * Int32.ofInt y.sign = Int32.ofInt (x.sign * y.sign) by rw [ii_mul]))) ?_
          refine RW.cv rfl rfl (xrc_v rfl rfl h5.y) rfl rfl (c_keep h5 hr.ix hr.lt q5 (by decide) (by omega) (by omega) hT hsg) ?_
          intro o6 h6
          refine RW.go ?_
          exact RW.re rfl rfl (h6.mv rfl)
        refine RW.ps 1 rfl ?_
        refine RW.ifc (fun k5 => ?_) (fun k5 => ?_)
        · rw [sg_bool] at k5
          refine RW.weak (lv0 := [.ref Y, .int r, xj, xj, xj, .int (Int32.ofInt x.sign), .int (Int32.ofInt y.sign), xj]) ⟨Or.inr rfl, Or.inr rfl, Or.inl rfl, Or.inl rfl, Or.inl rfl, Or.inr rfl, Or.inr rfl, Or.inl rfl, trivial⟩ ?_
          refine RW.sk [] rfl ?_
          refine h157 o4 h4 ?_
          rw [k5, if_neg Bool.false_ne_true]; exact q4
        · have hdn := sgt k5
          have hnq : n16 (x.natAbs / y.natAbs) ≤ 512 := Nat.le_trans (n16_mono (Nat.div_le_self _ _)) na
          refine RW.ps 2 rfl ?_
          refine RW.gf h4.y h4.f9 ?_
          refine RW.cv rfl rfl (xrc_v rfl rfl h4.y) rfl rfl (c_addOne q4 (by decide) (by omega)) ?_
          intro o5 ⟨f5, q5⟩
          have h5 := h4.scr f5 (by omega) (by omega)
          refine RW.weak (lv0 := [.ref Y, .int r, xj, xj, xj, .int (Int32.ofInt x.sign), .int (Int32.ofInt y.sign), xj]) ⟨Or.inr rfl, Or.inr rfl, Or.inl rfl, Or.inl rfl, Or.inl rfl, Or.inr rfl, Or.inr rfl, Or.inl rfl, trivial⟩ ?_
          refine RW.sk [] rfl ?_
          refine h157 o5 h5 ?_
          rw [hdn, if_pos rfl]; exact q5
    have h134 : dnb m x y = false → RW (MV o Y (0, upz z (rx r) (dv m x y)) t p) y_M_divide (xbk y_M_divide 134) [.ref Y, .int r, .int a, .int b, .int m, .int (Int32.ofInt x.sign), .int (Int32.ofInt y.sign), xj] [] o4 := by
      intro hd
      refine RW.ps 1 rfl ?_
      exact h135 false hd.symm
    refine RW.icm (fun k4 => ?_) (fun k4 => ?_)
    · rw [xi_ge, show (2 : Int32).toInt = 2 from rfl] at k4
      exact h134 (by unfold dnb; rw [decide_eq_false (by omega)]; rfl)
    rw [xi_ge, show (2 : Int32).toInt = 2 from rfl] at k4
    have hrn := r4.2.1
    refine RW.ps 1 rfl ?_
    refine RW.gf h4.y h4.f10 ?_
    refine RW.ps 1 rfl ?_
    refine RW.ia r4.1 i0n (by omega) ?_
    rw [r4.2.2.2.1]
    refine RW.ifc (fun k5 => ?_) (fun k5 => ?_)
    · rw [xi_le, iu (by omega), i0] at k5
      have hr0 : x.natAbs % y.natAbs = 0 := n16_zero.mp (by omega)
      exact h134 (by unfold dnb; simp [hr0])
    rw [xi_le, iu (by omega), i0] at k5
    have hr0 : x.natAbs % y.natAbs ≠ 0 := fun z => k5 (by rw [n16_zero.mpr z]; decide)
    have hx0 : x ≠ 0 := fun z => hr0 (by rw [z, show (0 : Int).natAbs = 0 from rfl, Nat.zero_mod])
    refine RW.ps 2 rfl ?_
    refine RW.icm (fun k6 => ?_) (fun k6 => ?_)
    · rw [xi_eq, sign_i, sign_i, sign_same hx0 k3] at k6
      exact h134 (by unfold dnb; rw [k6]; simp)
    · rw [xi_eq, sign_i, sign_i, sign_same hx0 k3] at k6
      refine RW.ps 1 rfl ?_
      refine RW.go ?_
      exact h135 true (by unfold dnb; rw [decide_eq_true (show m.toInt < 2 by omega), decide_eq_true hr0, bne_iff_ne.mpr k6]; rfl)
  refine RW.ps 2 rfl ?_
  refine RW.icm (fun k2 => ?_) (fun k2 => ?_)
  · rw [xi_le, show (3 : Int32).toInt = 3 from rfl] at k2
    refine RW.weak (lv0 := [.ref Y, .int r, .int a, .int b, .int m, xj, xj, xj]) ⟨Or.inr rfl, Or.inr rfl, Or.inr rfl, Or.inr rfl, Or.inr rfl, Or.inl rfl, Or.inl rfl, Or.inl rfl, trivial⟩ ?_
    exact h37 k2
  · rw [xi_le, show (3 : Int32).toInt = 3 from rfl] at k2
    refine RW.weak (lv0 := [.ref Y]) ⟨Or.inr rfl, trivial⟩ ?_
    exact hbad (fun q => by have := q.2.2.2.2; omega)
end C3
