/-! THE REFERENCE'S CALLS: power. -/
section C7
variable {o0 o o' : xO} {Y c : Nat} {z : Nat → Int} {t p : List Int32}
theorem c_mpower (h : MI o Y z t p c) {r a n : Int32} : Ct y_M_power [.ref Y, .int r, .int a, .int n] o (MV o Y (s_power z r a n) t p) := by
  have h := MS.start h
  have hbad : ¬ (okr r ∧ okr a ∧ 0 ≤ n.toInt ∧ n.toInt ≤ 8192) → RW (MV o Y (s_power z r a n) t p) y_M_power (xbk y_M_power 30) [.ref Y] [.ref Y] o := by
    intro hno
    refine RW.ps 1 rfl ?_
    refine RW.pf h.y rfl rfl ?_
    have h1 : MS o (xpf o Y 0 (.int 1)) Y z t p 1 := h.code 1
    refine RW.ps 1 rfl ?_
    refine RW.gf h1.y h1.cd ?_
    refine RW.ifc (fun k => absurd (xi_le.mp k) (by decide)) (fun _ => ?_)
    exact RW.re rfl rfl (h1.mv (if_neg hno))
  refine RW.ps 2 rfl ?_
  by_cases hr : ¬ okr r
  · refine RW.cp rfl rfl rfl rfl rfl (c_isRegister r) ?_
    rw [if_neg hr]
    refine RW.ifc (fun _ => ?_) (fun k => absurd (xi_eq.mpr rfl) k)
    refine RW.weak (lv0 := [.ref Y]) ⟨Or.inr rfl, trivial⟩ ?_
    exact hbad (fun k => hr k.1)
  have hr := Classical.not_not.mp hr
  refine RW.cp rfl rfl rfl rfl rfl (c_isRegister r) ?_
  rw [if_pos hr]
  refine RW.ifc (fun k => absurd (xi_eq.mp k) (by decide)) (fun _ => ?_)
  refine RW.ps 1 rfl ?_
  by_cases ha : ¬ okr a
  · refine RW.cp rfl rfl rfl rfl rfl (c_isRegister a) ?_
    rw [if_neg ha]
    refine RW.ifc (fun _ => ?_) (fun k => absurd (xi_eq.mpr rfl) k)
    refine RW.weak (lv0 := [.ref Y]) ⟨Or.inr rfl, trivial⟩ ?_
    exact hbad (fun k => ha k.2.1)
  have ha := Classical.not_not.mp ha
  refine RW.cp rfl rfl rfl rfl rfl (c_isRegister a) ?_
  rw [if_pos ha]
  refine RW.ifc (fun k => absurd (xi_eq.mp k) (by decide)) (fun _ => ?_)
  refine RW.ps 1 rfl ?_
  refine RW.ifc (fun k => ?_) (fun k => ?_)
  · rw [xi_lt, i0] at k
    refine RW.weak (lv0 := [.ref Y]) ⟨Or.inr rfl, trivial⟩ ?_
    exact hbad (fun q => by have := q.2.2.1; omega)
  rw [xi_lt, i0] at k
  refine RW.ps 2 rfl ?_
  refine RW.icm (fun k2 => ?_) (fun k2 => ?_)
  · rw [xi_gt, show (8192 : Int32).toInt = 8192 from rfl] at k2
    refine RW.weak (lv0 := [.ref Y]) ⟨Or.inr rfl, trivial⟩ ?_
    exact hbad (fun q => by have := q.2.2.2; omega)
  rw [xi_gt, show (8192 : Int32).toInt = 8192 from rfl] at k2
  refine RW.ps 1 rfl ?_
  refine RW.go ?_
  refine RW.pf h.y rfl rfl ?_
  have h1 : MS o (xpf o Y 0 (.int 0)) Y z t p 0 := h.code 0
  refine RW.ps 1 rfl ?_
  refine RW.gf h1.y h1.cd ?_
  refine RW.ifc (fun _ => ?_) (fun k => absurd (xi_le.mpr (by decide)) k)
  generalize xpf o Y 0 (.int 0) = o1 at h1 ⊢
  have hsp : s_power z r a n = keepV z r (pwz n.toInt.toNat (z (rx a))) := if_pos ⟨hr, ha, by omega, by omega⟩
  rw [hsp]
  have hn : n.toInt = (n.toInt.toNat : Int) := by omega
  have hn2 : n.toInt.toNat ≤ 8192 := by omega
  generalize n.toInt.toNat = e at *
  have hne := i_of hn
  refine RW.weak (lv0 := [.ref Y, .int r, .int a, .int n, xj, xj, xj]) ⟨Or.inr rfl, Or.inr rfl, Or.inr rfl, Or.inr rfl, Or.inl rfl, Or.inl rfl, Or.inl rfl, trivial⟩ ?_
  refine RW.sk [] rfl ?_
  refine RW.ps 3 rfl ?_
  refine RW.gf h1.y h1.f3 ?_
  refine RW.cv rfl rfl (xrc_v rfl rfl h1.y) rfl rfl (c_mload h1 ha 3 (by decide)) ?_
  intro o2 ⟨h2, m2, f2⟩
  have na := h2.n ha
  have ta := h2.top ha
  have sva := h2.sv ha
  generalize hx : z (rx a) = x at *
  have hbl : nbit x.natAbs ≤ 8192 := top_bits.mpr ta
  have habs : (pwz e x).natAbs = x.natAbs ^ e := mkz_abs _ _
  -- the end
  have h210 : ∀ o3 s, MS o o3 Y z t p 0 → Mn o3 (Y + 4) 1200 (x.natAbs ^ e) → (pwz e x ≠ 0 → s = Int32.ofInt (pwz e x).sign) → RW (MV o Y (keepV z r (pwz e x)) t p) y_M_power (xbk y_M_power 210) [.ref Y] [.int s, .ref (Y + 4), .int r, .ref Y] o3 := by
    intro o3 s h3 m3 hs
    have m3 : Mn o3 (Y + 4) 1200 (pwz e x).natAbs := by rw [habs]; exact m3
    refine RW.cv rfl rfl (xrc_v rfl rfl h3.y) rfl rfl (c_keepIf h3 hr m3 (by decide) (by omega) (by omega) (by omega) hs) ?_
    intro o4 h4
    exact RW.re rfl rfl h4.mvp
  have hsg : pwz e x ≠ 0 → (pwz e x).sign = if (neg x && decide (e % 2 = 1)) = true then -1 else 1 := fun hne => mkz_sign hne
  have h171 : ∀ o3 l6, MS o o3 Y z t p 0 → Mn o3 (Y + 4) 1200 (x.natAbs ^ e) → RW (MV o Y (keepV z r (pwz e x)) t p) y_M_power (xbk y_M_power 171) [.ref Y, .int r, .int a, .int n, xj, xj, l6] [] o3 := by
    intro o3 l6 h3 m3
    refine RW.weak (lv0 := [.ref Y, .int r, .int a, .int n, xj, xj, xj]) ⟨Or.inr rfl, Or.inr rfl, Or.inr rfl, Or.inr rfl, Or.inl rfl, Or.inl rfl, Or.inl rfl, trivial⟩ ?_
    refine RW.sk [] rfl ?_
    have h196 : (neg x = true → e % 2 = 1) → RW (MV o Y (keepV z r (pwz e x)) t p) y_M_power (xbk y_M_power 196) [.ref Y, .int r, .int a, .int n, xj, xj, xj] [.ref (Y + 4), .int r, .ref Y] o3 := by
      intro hod
      refine RW.ps 1 rfl ?_
      refine RW.ifc (fun k3 => ?_) (fun k3 => ?_)
      · rw [xi_ne, hn, i0] at k3
        refine RW.ps 1 rfl ?_
        refine RW.gf h3.y h3.f2 ?_
        refine RW.ps 1 rfl ?_
        refine RW.ia h3.k2 ha.ix ha.lt ?_
        rw [h3.sv ha, hx]
        refine RW.weak (lv0 := [.ref Y]) ⟨Or.inr rfl, trivial⟩ ?_
        refine RW.sk [.int (Int32.ofInt x.sign), .ref (Y + 4), .int r, .ref Y] rfl ?_
        refine h210 o3 _ h3 m3 (fun hne => ?_)
        rw [hsg hne]
        have hx0 : x ≠ 0 := by
          intro hx0
          refine hne ?_
          unfold pwz
          rw [hx0, show (0 : Int).natAbs = 0 from rfl, Nat.zero_pow (by omega)]
          cases (neg 0 && decide (e % 2 = 1)) <;> rfl
        rw [neg_sign hx0]
        cases hc : neg x with
        | true => rw [decide_eq_true (hod hc)]; rfl
        | false => rfl
      · rw [xi_ne, hn, i0] at k3
        have he0 : e = 0 := by omega
        refine RW.ps 1 rfl ?_
        refine RW.go ?_
        refine RW.weak (lv0 := [.ref Y]) ⟨Or.inr rfl, trivial⟩ ?_
        refine RW.sk [.int 1, .ref (Y + 4), .int r, .ref Y] rfl ?_
        refine h210 o3 1 h3 m3 (fun hne => ?_)
        rw [hsg hne, he0]
        simp
    refine RW.ps 3 rfl ?_
    refine RW.gf h3.y h3.f4 ?_
    refine RW.ps 1 rfl ?_
    refine RW.gf h3.y h3.f2 ?_
    refine RW.ps 1 rfl ?_
    refine RW.ia h3.k2 ha.ix ha.lt ?_
    rw [h3.sv ha, hx]
    refine RW.ifc (fun k3 => ?_) (fun k3 => ?_)
    · have k3 := sign_lt.mp k3
      exact h196 (fun hc => by rw [neg_f k3] at hc; cases hc)
    have k3 : x < 0 := Int.not_le.mp (fun z => k3 (sign_lt.mpr z))
    refine RW.ps 2 rfl ?_
    refine RW.irm (by decide) ?_
    refine RW.top (congrArg Value.int ((show n - n / 2 * 2 = Int32.ofInt ((e % 2 : Nat) : Int) by rw [hne, show (2 : Int32) = Int32.ofInt ((2 : Nat) : Int) by decide]; exact i_rem (by omega) (by decide)))) ?_
    refine RW.ifc (fun k4 => ?_) (fun k4 => ?_)
    · rw [xi_ne, iu (by omega), i0] at k4
      exact h196 (fun _ => by omega)
    · rw [xi_ne, iu (by omega), i0] at k4
      refine RW.ps 1 rfl ?_
      refine RW.go ?_
      refine RW.weak (lv0 := [.ref Y]) ⟨Or.inr rfl, trivial⟩ ?_
      refine RW.sk [.int 1, .ref (Y + 4), .int r, .ref Y] rfl ?_
      refine h210 o3 1 h3 m3 (fun hne => ?_)
      rw [hsg hne, decide_eq_false (by omega), Bool.and_false]; rfl
  -- the powers
  have h88 : (∀ q, q ≤ e → x.natAbs ^ q < 65536 ^ 1024) → RW (MV o Y (keepV z r (pwz e x)) t p) y_M_power (xbk y_M_power 88) [.ref Y, .int r, .int a, .int n, xj, xj, xj] [] o2 := by
    intro hbound
    have loop : ∀ (k : Nat) w, k ≤ 14 → MS o w Y z t p 0 → Mn w (Y + 3) 1200 x.natAbs → Mn w (Y + 4) 1200 (x.natAbs ^ (e / 2 ^ k)) → ∀ kw : Int32, kw.toInt = (k : Int) - 1 → RW (MV o Y (keepV z r (pwz e x)) t p) y_M_power (xbk y_M_power 100) [.ref Y, .int r, .int a, .int n, xj, xj, .int kw] [] w := by
      intro k
      induction k with
      | zero =>
        intro w hk hw m3 m4 kw hkw
        rw [Nat.pow_zero, Nat.div_one] at m4
        refine RW.ps 1 rfl ?_
        refine RW.ifc (fun _ => ?_) (fun k => ?_)
        · exact h171 w _ hw m4
        · rw [xi_lt, hkw, i0] at k; omega
      | succ k ih =>
        intro w hk hw m3 m4 kw hkw
        have hkk : kw.toInt = (k : Int) := by omega
        refine RW.ps 1 rfl ?_
        refine RW.ifc (fun k => ?_) (fun _ => ?_)
        · rw [xi_lt, hkk, i0] at k; omega
        refine RW.ps 1 rfl ?_
        refine RW.ifc (fun k5 => ?_) (fun k5 => ?_)
        · rw [xi_le, hn, i0] at k5
          have he0 : e = 0 := by omega
          rw [he0, Nat.zero_div, ← he0] at m4
          exact h171 w _ hw m4
        have hq0 : e / 2 ^ (k + 1) ≤ e := Nat.div_le_self _ _
        have hqk : e / 2 ^ k ≤ e := Nat.div_le_self _ _
        have hdd : e / 2 ^ k = 2 * (e / 2 ^ (k + 1)) + e / 2 ^ k % 2 := by
          rw [Nat.pow_succ, ← Nat.div_div_eq_div_mul]; omega
        have b1 := n16_le.mpr (hbound _ hq0)
        have b2 := n16_le.mpr (hbound _ (show 2 * (e / 2 ^ (k + 1)) ≤ e by generalize e / 2 ^ (k + 1) = g at *; generalize e / 2 ^ k = g2 at *; omega))
        have b3 := n16_le.mpr (hbound _ hqk)
        have hsq : x.natAbs ^ (e / 2 ^ (k + 1)) * x.natAbs ^ (e / 2 ^ (k + 1)) = x.natAbs ^ (2 * (e / 2 ^ (k + 1))) := by rw [← Nat.pow_add, Nat.two_mul]
        refine RW.ps 2 rfl ?_
        refine RW.gf hw.y hw.f4 ?_
        refine RW.ps 1 rfl ?_
        refine RW.gf hw.y hw.f4 ?_
        refine RW.cv rfl rfl (xrc_v rfl rfl hw.y) rfl rfl (c_mmul hw.2.1 m4 m4 (by decide) (by decide) (by omega) (by omega) (by omega)) ?_
        intro w2 ⟨g2, p2⟩
        rw [hsq] at p2
        have hw2 := hw.scr g2 (by omega) (by omega)
        have m3 := m3.fr1 g2 (by omega)
        refine RW.weak (lv0 := [.ref Y, .int r, .int a, .int n, xj, xj, .int kw]) ⟨Or.inr rfl, Or.inr rfl, Or.inr rfl, Or.inr rfl, Or.inl rfl, Or.inl rfl, Or.inr rfl, trivial⟩ ?_
        refine RW.sk [] rfl ?_
        refine RW.ps 1 rfl ?_
        refine RW.gf hw2.y hw2.f8 ?_
        refine RW.ps 1 rfl ?_
        refine RW.gf hw2.y hw2.f4 ?_
        refine RW.cv rfl rfl rfl rfl rfl (c_copy p2 (by decide) hw2.k4 (by omega) (by omega)) ?_
        intro w3 ⟨g3, p3⟩
        have hw3 := hw2.scr g3 (by omega) (by omega)
        have m3 := m3.fr1 g3 (by omega)
        have p3 : Mn w3 (Y + 4) 1200 (x.natAbs ^ (2 * (e / 2 ^ (k + 1)))) := p3
        have hkb : k < 32 := by omega
        have hd2 : e / 2 ^ k < 2 ^ 32 := by omega
        have h165 : ∀ w4, MS o w4 Y z t p 0 → Mn w4 (Y + 3) 1200 x.natAbs → Mn w4 (Y + 4) 1200 (x.natAbs ^ (e / 2 ^ k)) → RW (MV o Y (keepV z r (pwz e x)) t p) y_M_power (xbk y_M_power 165) [.ref Y, .int r, .int a, .int n, xj, xj, .int kw] [] w4 := by
          intro w4 hw4 n3 n4
          refine RW.ps 1 rfl ?_
          refine RW.go ?_
          exact ih w4 (by omega) hw4 n3 n4 (kw + (-1)) (by rw [← Int32.sub_eq_add_neg]; exact i_subnat hkk (by omega))
        refine RW.weak (lv0 := [.ref Y, .int r, .int a, .int n, xj, xj, .int kw]) ⟨Or.inr rfl, Or.inr rfl, Or.inr rfl, Or.inr rfl, Or.inl rfl, Or.inl rfl, Or.inr rfl, trivial⟩ ?_
        refine RW.sk [] rfl ?_
        refine RW.ps 3 rfl ?_
        refine RW.top (congrArg Value.int ((show n >>> (kw &&& 31) = Int32.ofInt ((e / 2 ^ k : Nat) : Int) by rw [hne]; exact m_shr hkk hkb (by omega)))) ?_
        refine RW.ps 2 rfl ?_
        refine RW.top (congrArg Value.int (m_and1 (a := e / 2 ^ k) hd2)) ?_
        refine RW.ps 1 rfl ?_
        refine RW.icm (fun k6 => ?_) (fun k6 => ?_)
        · rw [xi_ne, iu (by omega), show (1 : Int32).toInt = 1 from rfl] at k6
          have hbit : e / 2 ^ k % 2 = 0 := by omega
          rw [hbit, Nat.add_zero] at hdd
          rw [← hdd] at p3
          exact h165 w3 hw3 m3 p3
        · rw [xi_ne, iu (by omega), show (1 : Int32).toInt = 1 from rfl] at k6
          have hbit : e / 2 ^ k % 2 = 1 := by omega
          rw [hbit] at hdd
          have hmu : x.natAbs ^ (2 * (e / 2 ^ (k + 1))) * x.natAbs = x.natAbs ^ (e / 2 ^ k) := by rw [← Nat.pow_succ]; exact congrArg (fun q => x.natAbs ^ q) hdd.symm
          refine RW.ps 2 rfl ?_
          refine RW.gf hw3.y hw3.f4 ?_
          refine RW.ps 1 rfl ?_
          refine RW.gf hw3.y hw3.f3 ?_
          refine RW.cv rfl rfl (xrc_v rfl rfl hw3.y) rfl rfl (c_mmul hw3.2.1 p3 m3 (by decide) (by decide) (by omega) (by omega) (by omega)) ?_
          intro w4 ⟨g4, p4⟩
          rw [hmu] at p4
          have hw4 := hw3.scr g4 (by omega) (by omega)
          have m3 := m3.fr1 g4 (by omega)
          refine RW.ps 1 rfl ?_
          refine RW.gf hw4.y hw4.f8 ?_
          refine RW.ps 1 rfl ?_
          refine RW.gf hw4.y hw4.f4 ?_
          refine RW.cv rfl rfl rfl rfl rfl (c_copy p4 (by decide) hw4.k4 (by omega) (by omega)) ?_
          intro w5 ⟨g5, p5⟩
          exact h165 w5 (hw4.scr g5 (by omega) (by omega)) (m3.fr1 g5 (by omega)) p5
    refine RW.ps 1 rfl ?_
    refine RW.gf h2.y h2.f4 ?_
    refine RW.ps 1 rfl ?_
    refine RW.cv rfl rfl rfl rfl rfl (c_small (v := 1) h2.k4 (by decide) rfl (by decide)) ?_
    intro o3 ⟨f3, m4⟩
    have h3 := h2.scr f3 (by omega) (by omega)
    refine RW.ps 2 rfl ?_
    refine loop 14 o3 (Nat.le_refl _) h3 (m2.fr1 f3 (by omega)) ?_ 13 rfl
    rw [Nat.div_eq_of_lt (show e < 2 ^ 14 by omega), Nat.pow_zero]; exact m4
  refine RW.weak (lv0 := [.ref Y, .int r, .int a, .int n, xj, xj, xj]) ⟨Or.inr rfl, Or.inr rfl, Or.inr rfl, Or.inr rfl, Or.inl rfl, Or.inl rfl, Or.inl rfl, trivial⟩ ?_
  refine RW.sk [] rfl ?_
  refine RW.ps 1 rfl ?_
  refine RW.gf h2.y h2.f3 ?_
  refine RW.cp rfl rfl rfl rfl rfl (c_bitsOf16 m2 (by decide)) ?_
  refine RW.ps 1 rfl ?_
  refine RW.top (congrArg Value.long (ii_l (z := (nbit x.natAbs : Nat)) (by omega) (by omega))) ?_
  refine RW.ps 4 rfl ?_
  refine RW.weak (lv0 := [.ref Y, .int r, .int a, .int n, .long (Int64.ofInt (nbit x.natAbs : Nat)), xj, xj]) ⟨Or.inr rfl, Or.inr rfl, Or.inr rfl, Or.inr rfl, Or.inr rfl, Or.inl rfl, Or.inl rfl, trivial⟩ ?_
  refine RW.sk [.int (lg_cmp (Int64.ofInt (nbit x.natAbs : Nat)) (Int64.ofInt ((1 : Nat) : Int)))] rfl ?_
  refine RW.ifc (fun k3 => ?_) (fun k3 => ?_)
  · rw [lcmp_le (by omega) (by decide)] at k3
    have hx1 : x.natAbs < 2 ^ 1 := nbit_le.mp k3
    refine RW.weak (lv0 := [.ref Y, .int r, .int a, .int n, xj, xj, xj]) ⟨Or.inr rfl, Or.inr rfl, Or.inr rfl, Or.inr rfl, Or.inl rfl, Or.inl rfl, Or.inl rfl, trivial⟩ ?_
    refine RW.sk [] rfl ?_
    refine h88 (fun q _ => ?_)
    have h1 : x.natAbs ^ q ≤ 1 ^ q := Nat.pow_le_pow_left (by omega) q
    rw [Nat.one_pow] at h1
    exact Nat.lt_of_le_of_lt h1 (Nat.one_lt_pow (by decide) (by decide))
  rw [lcmp_le (by omega) (by decide)] at k3
  have hprod : (nbit x.natAbs - 1) * e ≤ 8191 * 8192 := Nat.mul_le_mul (by omega) hn2
  refine RW.ps 3 rfl ?_
  refine RW.top (congrArg Value.long ((show Int64.ofInt (nbit x.natAbs : Nat) - 1 = Int64.ofInt ((nbit x.natAbs - 1 : Nat) : Int) by rw [show (1 : Int64) = Int64.ofInt 1 by decide, li_sub]; congr 1; omega))) ?_
  refine RW.ps 3 rfl ?_
  refine RW.top (congrArg Value.long ((show Int64.ofInt ((nbit x.natAbs - 1 : Nat) : Int) * n.toInt64 = Int64.ofInt (((nbit x.natAbs - 1) * e : Nat) : Int) by rw [hne, ii_l (by omega) (by omega), li_mul, ← Int.natCast_mul]))) ?_
  refine RW.ps 2 rfl ?_
  have hcmp := cmp_toInt (a := (((nbit x.natAbs - 1) * e : Nat) : Int)) (b := 8192) (by omega) (by omega) (by decide) (by decide)
  refine RW.ifc (fun k4 => ?_) (fun k4 => ?_)
  · rw [xi_lt, i0] at k4
    have k4 : (lg_cmp (Int64.ofInt (((nbit x.natAbs - 1) * e : Nat) : Int)) (Int64.ofInt 8192)).toInt < 0 := k4
    have hlt : (nbit x.natAbs - 1) * e < 8192 := by
      rcases Nat.lt_or_ge ((nbit x.natAbs - 1) * e) 8192 with g | g
      · exact g
      · rw [hcmp] at k4
        by_cases g2 : (8192 : Int) < (((nbit x.natAbs - 1) * e : Nat) : Int)
        · rw [if_pos g2] at k4; omega
        · rw [if_neg g2, if_pos (by omega)] at k4; omega
    refine RW.weak (lv0 := [.ref Y, .int r, .int a, .int n, xj, xj, xj]) ⟨Or.inr rfl, Or.inr rfl, Or.inr rfl, Or.inr rfl, Or.inl rfl, Or.inl rfl, Or.inl rfl, trivial⟩ ?_
    refine RW.sk [] rfl ?_
    refine h88 (fun q hq => ?_)
    have hx1 : 1 ≤ x.natAbs := by
      rcases Nat.eq_zero_or_pos x.natAbs with g | g
      · rw [g, nbit_0] at k3; omega
      · exact g
    have h1 : x.natAbs ^ q ≤ x.natAbs ^ e := Nat.pow_le_pow_right hx1 hq
    have h2 : x.natAbs ^ e ≤ (2 ^ nbit x.natAbs) ^ e := Nat.pow_le_pow_left (Nat.le_of_lt (nbit_self _)) e
    have h3 : nbit x.natAbs * e = (nbit x.natAbs - 1) * e + e := by
      conv => lhs; rw [show nbit x.natAbs = (nbit x.natAbs - 1) + 1 by omega]
      rw [Nat.add_mul, Nat.one_mul]
    rw [← Nat.pow_mul] at h2
    rw [b16]
    exact Nat.lt_of_le_of_lt (Nat.le_trans h1 h2) (Nat.pow_lt_pow_right (by decide) (by omega))
  · have hge : 8192 ≤ (nbit x.natAbs - 1) * e := by
      rcases Nat.lt_or_ge ((nbit x.natAbs - 1) * e) 8192 with g | g
      · refine absurd ?_ k4
        rw [xi_lt, i0]
        show (lg_cmp (Int64.ofInt (((nbit x.natAbs - 1) * e : Nat) : Int)) (Int64.ofInt 8192)).toInt < 0
        rw [hcmp, if_neg (by omega), if_neg (by omega)]; decide
      · exact g
    have hT : ¬ (pwz e x).natAbs < TOP := by
      rw [habs]
      have h1 : 2 ^ (nbit x.natAbs - 1) ≤ x.natAbs := nbit_ge (by omega)
      have h2 := Nat.pow_le_pow_left h1 e
      rw [← Nat.pow_mul] at h2
      have h3 : TOP ≤ 2 ^ ((nbit x.natAbs - 1) * e) := Nat.pow_le_pow_right (by decide) hge
      exact Nat.not_lt.mpr (Nat.le_trans h3 h2)
    refine RW.ps 2 rfl ?_
    refine RW.pf h2.y rfl rfl ?_
    have h3 : MS o (xpf o2 Y 0 (.int 2)) Y z t p 2 := h2.code 2
    exact RW.re rfl rfl (h3.mv (if_neg hT))
end C7
