/-! THE REFERENCE'S CALLS: combine. -/
section C5
variable {o0 o o' : xO} {Y c : Nat} {z : Nat → Int} {t p : List Int32}
theorem c_mcombine (h : MI o Y z t p c) {r a b m : Int32} : Ct y_M_combine [.ref Y, .int r, .int a, .int b, .int m] o (MV o Y (s_combine z r a b m) t p) := by
  have h := MS.start h
  have hbad : ¬ (okr r ∧ okr a ∧ okr b ∧ 0 ≤ m.toInt ∧ m.toInt ≤ 2) → RW (MV o Y (s_combine z r a b m) t p) y_M_combine (xbk y_M_combine 37) [.ref Y] [.ref Y] o := by
    intro hno
    refine RW.ps 1 rfl ?_
    refine RW.pf h.y rfl rfl ?_
    have h1 : MS o (xpf o Y 0 (.int 1)) Y z t p 1 := h.code 1
    refine RW.ps 1 rfl ?_
    refine RW.gf h1.y h1.cd ?_
    refine RW.ifc (fun k => absurd (xi_le.mp k) (by decide)) (fun _ => ?_)
    exact RW.re rfl rfl (h1.mv (if_neg hno))
  refine RW.ps 2 rfl ?_
  by_cases hr : ¬ okr r
  · refine RW.cp rfl rfl rfl rfl rfl (c_isRegister r) ?_
    rw [if_neg hr]
    refine RW.ifc (fun _ => ?_) (fun k => absurd (xi_eq.mpr rfl) k)
    refine RW.weak (lv0 := [.ref Y]) ⟨Or.inr rfl, trivial⟩ ?_
    exact hbad (fun k => hr k.1)
  have hr := Classical.not_not.mp hr
  refine RW.cp rfl rfl rfl rfl rfl (c_isRegister r) ?_
  rw [if_pos hr]
  refine RW.ifc (fun k => absurd (xi_eq.mp k) (by decide)) (fun _ => ?_)
  refine RW.ps 1 rfl ?_
  by_cases ha : ¬ okr a
  · refine RW.cp rfl rfl rfl rfl rfl (c_isRegister a) ?_
    rw [if_neg ha]
    refine RW.ifc (fun _ => ?_) (fun k => absurd (xi_eq.mpr rfl) k)
    refine RW.weak (lv0 := [.ref Y]) ⟨Or.inr rfl, trivial⟩ ?_
    exact hbad (fun k => ha k.2.1)
  have ha := Classical.not_not.mp ha
  refine RW.cp rfl rfl rfl rfl rfl (c_isRegister a) ?_
  rw [if_pos ha]
  refine RW.ifc (fun k => absurd (xi_eq.mp k) (by decide)) (fun _ => ?_)
  refine RW.ps 1 rfl ?_
  by_cases hb : ¬ okr b
  · refine RW.cp rfl rfl rfl rfl rfl (c_isRegister b) ?_
    rw [if_neg hb]
    refine RW.ifc (fun _ => ?_) (fun k => absurd (xi_eq.mpr rfl) k)
    refine RW.weak (lv0 := [.ref Y]) ⟨Or.inr rfl, trivial⟩ ?_
    exact hbad (fun k => hb k.2.2.1)
  have hb := Classical.not_not.mp hb
  refine RW.cp rfl rfl rfl rfl rfl (c_isRegister b) ?_
  rw [if_pos hb]
  refine RW.ifc (fun k => absurd (xi_eq.mp k) (by decide)) (fun _ => ?_)
  refine RW.ps 1 rfl ?_
  refine RW.ifc (fun k => ?_) (fun k => ?_)
  · rw [xi_lt, i0] at k
    refine RW.weak (lv0 := [.ref Y]) ⟨Or.inr rfl, trivial⟩ ?_
    exact hbad (fun q => by have := q.2.2.2.1; omega)
  rw [xi_lt, i0] at k
  refine RW.ps 2 rfl ?_
  refine RW.icm (fun k2 => ?_) (fun k2 => ?_)
  · rw [xi_gt, show (2 : Int32).toInt = 2 from rfl] at k2
    refine RW.weak (lv0 := [.ref Y]) ⟨Or.inr rfl, trivial⟩ ?_
    exact hbad (fun q => by have := q.2.2.2.2; omega)
  rw [xi_gt, show (2 : Int32).toInt = 2 from rfl] at k2
  refine RW.ps 1 rfl ?_
  refine RW.go ?_
  refine RW.pf h.y rfl rfl ?_
  have h1 : MS o (xpf o Y 0 (.int 0)) Y z t p 0 := h.code 0
  refine RW.ps 1 rfl ?_
  refine RW.gf h1.y h1.cd ?_
  refine RW.ifc (fun _ => ?_) (fun k => absurd (xi_le.mpr (by decide)) k)
  generalize xpf o Y 0 (.int 0) = o1 at h1 ⊢
  have hsp : s_combine z r a b m = keepV z r (cmb m (z (rx a)) (z (rx b))) := if_pos ⟨hr, ha, hb, by omega, by omega⟩
  rw [hsp]
  refine RW.weak (lv0 := [.ref Y, .int r, .int a, .int b, .int m, xj, xj, xj]) ⟨Or.inr rfl, Or.inr rfl, Or.inr rfl, Or.inr rfl, Or.inr rfl, Or.inl rfl, Or.inl rfl, Or.inl rfl, trivial⟩ ?_
  refine RW.sk [] rfl ?_
  refine RW.ps 3 rfl ?_
  refine RW.gf h1.y h1.f3 ?_
  refine RW.cv rfl rfl (xrc_v rfl rfl h1.y) rfl rfl (c_mload h1 ha 3 (by decide)) ?_
  intro o2 ⟨h2, m2, f2⟩
  refine RW.ps 3 rfl ?_
  refine RW.gf h2.y h2.f4 ?_
  refine RW.cv rfl rfl (xrc_v rfl rfl h2.y) rfl rfl (c_mload h2 hb 4 (by decide)) ?_
  intro o3 ⟨h3, m4, f3⟩
  have m3 := m2.fr1 f3 (by omega)
  have na := h3.n ha
  have nb := h3.n hb
  have ta := h3.top ha
  have tb := h3.top hb
  have sva := h3.sv ha
  have svb := h3.sv hb
  generalize hx : z (rx a) = x at *
  generalize hy : z (rx b) = y at *
  generalize hN : max (n16 x.natAbs) (n16 y.natAbs) = N at *
  have hcx : core x < 65536 ^ N := Nat.lt_of_le_of_lt (core_le x) (n16_le.mp (by omega))
  have hcy : core y < 65536 ^ N := Nat.lt_of_le_of_lt (core_le y) (n16_le.mp (by omega))
  have hZ : cbn m (neg x) (neg y) (core x) (core y) < 65536 ^ N := by rw [b16]; exact cbn_lt (by rw [← b16]; exact hcx) (by rw [← b16]; exact hcy)
  have hpart := fun k => cb_part m (neg x) (neg y) (core x) (core y) k
  have hcmb : cmb m x y = uncore (cbn m (neg x) (neg y) (core x) (core y)) (gg m (neg x) (neg y)) := rfl
  have hK3 : n16 (cbn m (neg x) (neg y) (core x) (core y)) ≤ N := n16_le.mpr hZ
  generalize hbl : gg m (neg x) (neg y) = bl at *
  generalize hZZ : cbn m (neg x) (neg y) (core x) (core y) = Z at *
  -- the end
  have h309 : ∀ o5 (s : Int32), MS o o5 Y z t p 0 → Mn o5 (Y + 3) 1200 (cmb m x y).natAbs → (s = if bl = true then -1 else 1) → RW (MV o Y (keepV z r (cmb m x y)) t p) y_M_combine (xbk y_M_combine 309) [.ref Y] [.int s, .ref (Y + 3), .int r, .ref Y] o5 := by
    intro o5 s h5 m5 hs
    refine RW.cv rfl rfl (xrc_v rfl rfl h5.y) rfl rfl (c_keepIf h5 hr m5 (by decide) (by omega) (by omega) (by omega) (fun hne => by rw [hs]; rw [hcmb] at hne ⊢; unfold uncore at hne ⊢; cases bl with | true => (rw [if_pos rfl, if_pos rfl, Int.sign_eq_neg_one_of_neg (by omega)]; rfl) | false => (rw [if_neg Bool.false_ne_true] at hne; rw [if_neg Bool.false_ne_true, if_neg Bool.false_ne_true, Int.sign_eq_one_of_pos (by omega)]; rfl))) ?_
    intro o6 h6
    exact RW.re rfl rfl h6.mvp
  have h293 : ∀ o5, MS o o5 Y z t p 0 → Mn o5 (Y + 3) 1200 (cmb m x y).natAbs → RW (MV o Y (keepV z r (cmb m x y)) t p) y_M_combine (xbk y_M_combine 293) [.ref Y, .int r, xj, xj, xj, xj, .int (sg bl), xj] [] o5 := by
    intro o5 h5 m5
    refine RW.ps 3 rfl ?_
    refine RW.gf h5.y h5.f3 ?_
    refine RW.ps 1 rfl ?_
    refine RW.ifc (fun k => ?_) (fun k => ?_)
    · refine RW.ps 1 rfl ?_
      refine RW.weak (lv0 := [.ref Y]) ⟨Or.inr rfl, trivial⟩ ?_
      refine RW.sk [.int 1, .ref (Y + 3), .int r, .ref Y] rfl ?_
      exact h309 o5 1 h5 m5 (by rw [sg_bool.mp k]; rfl)
    · refine RW.ps 1 rfl ?_
      refine RW.go ?_
      refine RW.weak (lv0 := [.ref Y]) ⟨Or.inr rfl, trivial⟩ ?_
      refine RW.sk [.int (-1), .ref (Y + 3), .int r, .ref Y] rfl ?_
      exact h309 o5 (-1) h5 m5 (by rw [sgt k]; rfl)
  have h273 : ∀ o5 l7, MS o o5 Y z t p 0 → Mu o5 (Y + 3) 1200 (N + 1) Z → RW (MV o Y (keepV z r (cmb m x y)) t p) y_M_combine (xbk y_M_combine 273) [.ref Y, .int r, xj, xj, xj, xj, .int (sg bl), l7] [] o5 := by
    intro o5 l7 h5 m5
    refine RW.weak (lv0 := [.ref Y, .int r, xj, xj, xj, xj, .int (sg bl), xj]) ⟨Or.inr rfl, Or.inr rfl, Or.inl rfl, Or.inl rfl, Or.inl rfl, Or.inl rfl, Or.inr rfl, Or.inl rfl, trivial⟩ ?_
    refine RW.sk [] rfl ?_
    refine RW.ps 1 rfl ?_
    refine RW.gf h5.y h5.f3 ?_
    refine RW.cv rfl rfl rfl rfl rfl (c_cutn m5 (by decide)) ?_
    intro o6 ⟨f6, m6⟩
    have h6 := h5.scr f6 (by omega) (by omega)
    refine RW.ps 1 rfl ?_
    refine RW.ifc (fun k => ?_) (fun k => ?_)
    · have hb0 := sg_bool.mp k
      have m6 : Mn o6 (Y + 3) 1200 (cmb m x y).natAbs := by
        rw [hcmb, hb0]
        show Mn o6 (Y + 3) 1200 (Z : Int).natAbs
        rw [Int.natAbs_natCast]; exact m6
      exact h293 o6 h6 m6
    · have hb1 := sgt k
      refine RW.ps 2 rfl ?_
      refine RW.gf h6.y h6.f3 ?_
      refine RW.cv rfl rfl (xrc_v rfl rfl h6.y) rfl rfl (c_addOne m6 (by decide) (by omega)) ?_
      intro o7 ⟨f7, m7⟩
      have h7 := h6.scr f7 (by omega) (by omega)
      have m7 : Mn o7 (Y + 3) 1200 (cmb m x y).natAbs := by
        rw [hcmb, hb1]
        show Mn o7 (Y + 3) 1200 (-((Z : Int) + 1)).natAbs
        rw [show (-((Z : Int) + 1)).natAbs = Z + 1 by omega]; exact m7
      exact h293 o7 h7 m7
  have h243 : bl = true → ∀ q j (jw : Int32) o5, j + q = N + 1 → jw.toInt = ((j + 1 : Nat) : Int) → MS o o5 Y z t p 0 → xi o5 (Y + 3) 0 = Int32.ofInt ((N + 1 : Nat) : Int) → (∀ k, k < j → xi o5 (Y + 3) (k + 1) = Int32.ofInt (d16 Z k : Nat)) → (∀ k, j ≤ k → k < N + 1 → xi o5 (Y + 3) (k + 1) = Int32.ofInt ((gop m (d16 (core x) k ^^^ mk16 (neg x)) (d16 (core y) k ^^^ mk16 (neg y)) : Nat) : Int)) → RW (MV o Y (keepV z r (cmb m x y)) t p) y_M_combine (xbk y_M_combine 243) [.ref Y, .int r, xj, xj, xj, .int (Int32.ofInt ((N + 1 : Nat) : Int)), .int (sg bl), .int jw] [] o5 := by
    intro hb1 q
    induction q with
    | zero =>
      intro j jw o5 hj hjw h5 h0 hk1 hk2
      refine RW.ps 2 rfl ?_
      refine RW.icm (fun _ => ?_) (fun k => ?_)
      rotate_left
      · rw [xi_gt, iu (by omega), hjw] at k; omega
      refine RW.weak (lv0 := [.ref Y, .int r, xj, xj, xj, xj, .int (sg bl), xj]) ⟨Or.inr rfl, Or.inr rfl, Or.inl rfl, Or.inl rfl, Or.inl rfl, Or.inl rfl, Or.inr rfl, Or.inl rfl, trivial⟩ ?_
      refine RW.sk [] rfl ?_
      exact h273 o5 _ h5 ⟨h5.k3, by omega, Nat.lt_trans hZ (Nat.pow_lt_pow_right (by decide) (by omega)), h0, fun k hk => hk1 k (by omega)⟩
    | succ q ih =>
      intro j jw o5 hj hjw h5 h0 hk1 hk2
      have g1 : d16 (core x) j ^^^ mk16 (neg x) < 2 ^ 16 := Nat.xor_lt_two_pow (d16_lt _ _) (mk16_lt _)
      have g2 : d16 (core y) j ^^^ mk16 (neg y) < 2 ^ 16 := Nat.xor_lt_two_pow (d16_lt _ _) (mk16_lt _)
      have g3 : gop m (d16 (core x) j ^^^ mk16 (neg x)) (d16 (core y) j ^^^ mk16 (neg y)) < 2 ^ 16 := gop_lt g1 g2
      have g4 := hpart j
      rw [hb1] at g4
      refine RW.ps 2 rfl ?_
      refine RW.icm (fun k => ?_) (fun _ => ?_)
      · rw [xi_gt, iu (by omega), hjw] at k; omega
      refine RW.ps 1 rfl ?_
      refine RW.gf h5.y h5.f3 ?_
      refine RW.ps 2 rfl ?_
      refine RW.gf h5.y h5.f3 ?_
      refine RW.ps 1 rfl ?_
      refine RW.ia h5.k3 hjw (by omega) ?_
      rw [hk2 j (Nat.le_refl _) (by omega)]
      generalize gop m (d16 (core x) j ^^^ mk16 (neg x)) (d16 (core y) j ^^^ mk16 (neg y)) = G at *
      refine RW.ps 2 rfl ?_
      refine RW.top (congrArg Value.int (m_xor (a := G) (b := 65535) (by omega) (by decide))) ?_
      refine RW.ist h5.k3 hjw (by omega) ?_
      refine RW.ps 1 rfl ?_
      refine RW.go ?_
      have f6 : Fr [(Y + 3, 1)] o5 (xpi o5 (Y + 3) (j + 1) (Int32.ofInt ((G ^^^ 65535 : Nat) : Int))) := Fr.pi
      refine ih (j + 1) (jw + 1) _ (by omega) (i_succ hjw (by omega)) (h5.scr f6 (by omega) (by omega)) ((xpi_ne (fun _ => by omega)).trans h0) (fun k hk => ?_) (fun k hk3 hk4 => (xpi_ne (fun _ => by omega)).trans (hk2 k (by omega) hk4))
      by_cases hkj : k = j
      · subst hkj
        rw [xpi_same, ← g4]; rfl
      · rw [xpi_ne (fun _ => by omega)]; exact hk1 k (by omega)
  have h216 : ∀ o5, MS o o5 Y z t p 0 → xi o5 (Y + 3) 0 = Int32.ofInt ((N + 1 : Nat) : Int) → (∀ k, k < N + 1 → xi o5 (Y + 3) (k + 1) = Int32.ofInt ((gop m (d16 (core x) k ^^^ mk16 (neg x)) (d16 (core y) k ^^^ mk16 (neg y)) : Nat) : Int)) → RW (MV o Y (keepV z r (cmb m x y)) t p) y_M_combine (xbk y_M_combine 216) [.ref Y, .int r, xj, xj, xj, .int (Int32.ofInt ((N + 1 : Nat) : Int)), xj, xj] [] o5 := by
    intro o5 h5 h0 hk
    have htopv : gop m (d16 (core x) N ^^^ mk16 (neg x)) (d16 (core y) N ^^^ mk16 (neg y)) = mk16 bl := by
      rw [d16_zero hcx, d16_zero hcy, Nat.zero_xor, Nat.zero_xor, gop_mk16, hbl]
    have h233 : ∀ cc : Bool, cc = bl → RW (MV o Y (keepV z r (cmb m x y)) t p) y_M_combine (xbk y_M_combine 233) [.ref Y, .int r, xj, xj, xj, .int (Int32.ofInt ((N + 1 : Nat) : Int)), xj, xj] [.int (sg cc)] o5 := by
      intro cc hcc
      subst hcc
      refine RW.ps 2 rfl ?_
      refine RW.ifc (fun k => ?_) (fun k => ?_)
      · have hb0 := sg_bool.mp k
        refine RW.weak (lv0 := [.ref Y, .int r, xj, xj, xj, xj, .int (sg cc), xj]) ⟨Or.inr rfl, Or.inr rfl, Or.inl rfl, Or.inl rfl, Or.inl rfl, Or.inl rfl, Or.inr rfl, Or.inl rfl, trivial⟩ ?_
        refine RW.sk [] rfl ?_
        refine h273 o5 _ h5 ⟨h5.k3, by omega, Nat.lt_trans hZ (Nat.pow_lt_pow_right (by decide) (by omega)), h0, fun k hkn => ?_⟩
        rw [hk k hkn]
        have g4 := hpart k
        rw [hb0, show mk16 false = 0 from rfl, Nat.xor_zero] at g4
        rw [g4]
      · have hb1 := sgt k
        refine RW.ps 2 rfl ?_
        refine RW.weak (lv0 := [.ref Y, .int r, xj, xj, xj, .int (Int32.ofInt ((N + 1 : Nat) : Int)), .int (sg cc), .int 1]) ⟨Or.inr rfl, Or.inr rfl, Or.inl rfl, Or.inl rfl, Or.inl rfl, Or.inr rfl, Or.inr rfl, Or.inr rfl, trivial⟩ ?_
        refine RW.sk [] rfl ?_
        exact h243 hb1 (N + 1) 0 1 o5 (Nat.zero_add _) rfl h5 h0 (fun k hk => absurd hk (Nat.not_lt_zero k)) (fun k _ hk2 => hk k hk2)
    refine RW.ps 1 rfl ?_
    refine RW.gf h5.y h5.f3 ?_
    refine RW.ps 1 rfl ?_
    refine RW.ia h5.k3 (k := N + 1) (iu (by omega)) (by omega) ?_
    rw [hk N (by omega), htopv]
    refine RW.ps 1 rfl ?_
    have hml := mk16_lt bl
    refine RW.icm (fun k => ?_) (fun k => ?_)
    · rw [xi_lt, iu (by omega), show (32768 : Int32).toInt = 32768 from rfl] at k
      refine RW.ps 1 rfl ?_
      refine RW.weak (lv0 := [.ref Y, .int r, xj, xj, xj, .int (Int32.ofInt ((N + 1 : Nat) : Int)), xj, xj]) ⟨Or.inr rfl, Or.inr rfl, Or.inl rfl, Or.inl rfl, Or.inl rfl, Or.inr rfl, Or.inl rfl, Or.inl rfl, trivial⟩ ?_
      refine RW.sk [.int (sg false)] rfl ?_
      refine h233 false ?_
      cases bl with
      | false => rfl
      | true => exact absurd k (by decide)
    · rw [xi_lt, iu (by omega), show (32768 : Int32).toInt = 32768 from rfl] at k
      refine RW.ps 1 rfl ?_
      refine RW.go ?_
      refine RW.weak (lv0 := [.ref Y, .int r, xj, xj, xj, .int (Int32.ofInt ((N + 1 : Nat) : Int)), xj, xj]) ⟨Or.inr rfl, Or.inr rfl, Or.inl rfl, Or.inl rfl, Or.inl rfl, Or.inr rfl, Or.inl rfl, Or.inl rfl, trivial⟩ ?_
      refine RW.sk [.int (sg true)] rfl ?_
      refine h233 true ?_
      cases bl with
      | true => rfl
      | false => exact absurd (by decide) k
  have h134 : ∀ q j (jw : Int32) o5, j + q = N + 1 → jw.toInt = ((j + 1 : Nat) : Int) → MS o o5 Y z t p 0 → xi o5 (Y + 3) 0 = Int32.ofInt ((N + 1 : Nat) : Int) → (∀ k, k < j → xi o5 (Y + 3) (k + 1) = Int32.ofInt ((gop m (d16 (core x) k ^^^ mk16 (neg x)) (d16 (core y) k ^^^ mk16 (neg y)) : Nat) : Int)) → (∀ k, j ≤ k → k < N + 1 → xi o5 (Y + 3) (k + 1) = Int32.ofInt ((d16 (core x) k ^^^ mk16 (neg x) : Nat) : Int)) → (∀ k, k < N + 1 → xi o5 (Y + 4) (k + 1) = Int32.ofInt ((d16 (core y) k ^^^ mk16 (neg y) : Nat) : Int)) →
      RW (MV o Y (keepV z r (cmb m x y)) t p) y_M_combine (xbk y_M_combine 134) [.ref Y, .int r, xj, xj, .int m, .int (Int32.ofInt ((N + 1 : Nat) : Int)), .int jw, xj] [] o5 := by
    intro q
    induction q with
    | zero =>
      intro j jw o5 hj hjw h5 h0 hk1 hk2 hk3
      refine RW.ps 2 rfl ?_
      refine RW.icm (fun _ => ?_) (fun k => ?_)
      rotate_left
      · rw [xi_gt, iu (by omega), hjw] at k; omega
      refine RW.weak (lv0 := [.ref Y, .int r, xj, xj, xj, .int (Int32.ofInt ((N + 1 : Nat) : Int)), xj, xj]) ⟨Or.inr rfl, Or.inr rfl, Or.inl rfl, Or.inl rfl, Or.inl rfl, Or.inr rfl, Or.inl rfl, Or.inl rfl, trivial⟩ ?_
      refine RW.sk [] rfl ?_
      exact h216 o5 h5 h0 (fun k hk => hk1 k (by omega))
    | succ q ih =>
      intro j jw o5 hj hjw h5 h0 hk1 hk2 hk3
      have g1 : d16 (core x) j ^^^ mk16 (neg x) < 2 ^ 16 := Nat.xor_lt_two_pow (d16_lt _ _) (mk16_lt _)
      have g2 : d16 (core y) j ^^^ mk16 (neg y) < 2 ^ 16 := Nat.xor_lt_two_pow (d16_lt _ _) (mk16_lt _)
      have hA := hk2 j (Nat.le_refl _) (by omega)
      have hB := hk3 j (by omega)
      have h209 : ∀ v : Int32, v = Int32.ofInt ((gop m (d16 (core x) j ^^^ mk16 (neg x)) (d16 (core y) j ^^^ mk16 (neg y)) : Nat) : Int) → RW (MV o Y (keepV z r (cmb m x y)) t p) y_M_combine (xbk y_M_combine 209) [.ref Y, .int r, xj, xj, .int m, .int (Int32.ofInt ((N + 1 : Nat) : Int)), .int jw, xj] [.int v, .int jw, .ref (Y + 3)] o5 := by
        intro v hv
        subst hv
        refine RW.ist h5.k3 hjw (by omega) ?_
        refine RW.ps 1 rfl ?_
        refine RW.go ?_
        have f6 : Fr [(Y + 3, 1)] o5 (xpi o5 (Y + 3) (j + 1) (Int32.ofInt ((gop m (d16 (core x) j ^^^ mk16 (neg x)) (d16 (core y) j ^^^ mk16 (neg y)) : Nat) : Int))) := Fr.pi
        refine ih (j + 1) (jw + 1) _ (by omega) (i_succ hjw (by omega)) (h5.scr f6 (by omega) (by omega)) ((xpi_ne (fun _ => by omega)).trans h0) (fun k hk => ?_) (fun k hk4 hk5 => (xpi_ne (fun _ => by omega)).trans (hk2 k (by omega) hk5)) (fun k hk => (xpi_ne (fun e => absurd e (by omega))).trans (hk3 k hk))
        by_cases hkj : k = j
        · subst hkj; exact xpi_same
        · rw [xpi_ne (fun _ => by omega)]; exact hk1 k (by omega)
      generalize hGA : d16 (core x) j ^^^ mk16 (neg x) = A at *
      generalize hGB : d16 (core y) j ^^^ mk16 (neg y) = B at *
      refine RW.ps 2 rfl ?_
      refine RW.icm (fun k => ?_) (fun _ => ?_)
      · rw [xi_gt, iu (by omega), hjw] at k; omega
      refine RW.ps 1 rfl ?_
      refine RW.gf h5.y h5.f3 ?_
      refine RW.ps 2 rfl ?_
      refine RW.ifc (fun k3 => ?_) (fun k3 => ?_)
      · rw [xi_ne, i0] at k3
        refine RW.ps 2 rfl ?_
        refine RW.icm (fun k4 => ?_) (fun k4 => ?_)
        · rw [xi_ne, show (1 : Int32).toInt = 1 from rfl] at k4
          refine RW.ps 1 rfl ?_
          refine RW.gf h5.y h5.f3 ?_
          refine RW.ps 1 rfl ?_
          refine RW.ia h5.k3 hjw (by omega) ?_
          rw [hA]
          refine RW.ps 1 rfl ?_
          refine RW.gf h5.y h5.f4 ?_
          refine RW.ps 1 rfl ?_
          refine RW.ia h5.k4 hjw (by omega) ?_
          rw [hB]
          refine RW.ps 1 rfl ?_
          exact h209 _ (by rw [m_xor (by omega) (by omega)]; unfold gop; rw [if_neg k3, if_neg k4])
        · rw [xi_ne, show (1 : Int32).toInt = 1 from rfl] at k4
          have k4 := Classical.not_not.mp k4
          refine RW.ps 1 rfl ?_
          refine RW.gf h5.y h5.f3 ?_
          refine RW.ps 1 rfl ?_
          refine RW.ia h5.k3 hjw (by omega) ?_
          rw [hA]
          refine RW.ps 1 rfl ?_
          refine RW.gf h5.y h5.f4 ?_
          refine RW.ps 1 rfl ?_
          refine RW.ia h5.k4 hjw (by omega) ?_
          rw [hB]
          refine RW.ps 1 rfl ?_
          refine RW.go ?_
          exact h209 _ (by rw [m_orr (by omega) (by omega)]; unfold gop; rw [if_neg k3, if_pos k4])
      · rw [xi_ne, i0] at k3
        have k3 := Classical.not_not.mp k3
        refine RW.ps 1 rfl ?_
        refine RW.gf h5.y h5.f3 ?_
        refine RW.ps 1 rfl ?_
        refine RW.ia h5.k3 hjw (by omega) ?_
        rw [hA]
        refine RW.ps 1 rfl ?_
        refine RW.gf h5.y h5.f4 ?_
        refine RW.ps 1 rfl ?_
        refine RW.ia h5.k4 hjw (by omega) ?_
        rw [hB]
        refine RW.ps 1 rfl ?_
        refine RW.go ?_
        exact h209 _ (by rw [m_and (by omega) (by omega)]; unfold gop; rw [if_pos k3])
  have h97 : RW (MV o Y (keepV z r (cmb m x y)) t p) y_M_combine (xbk y_M_combine 97) [.ref Y, .int r, .int a, .int b, .int m, xj, xj, xj] [.int (Int32.ofInt (N : Nat))] o3 := by
    refine RW.ps 2 rfl ?_
    refine RW.top (congrArg Value.int (is1 N)) ?_
    refine RW.ps 2 rfl ?_
    refine RW.weak (lv0 := [.ref Y, .int r, .int a, .int b, .int m, .int (Int32.ofInt ((N + 1 : Nat) : Int)), xj, xj]) ⟨Or.inr rfl, Or.inr rfl, Or.inr rfl, Or.inr rfl, Or.inr rfl, Or.inr rfl, Or.inl rfl, Or.inl rfl, trivial⟩ ?_
    refine RW.sk [.ref Y] rfl ?_
    refine RW.gf h3.y h3.f3 ?_
    refine RW.ps 1 rfl ?_
    refine RW.gf h3.y h3.f2 ?_
    refine RW.ps 1 rfl ?_
    refine RW.ia h3.k2 ha.ix ha.lt ?_
    rw [sva]
    refine RW.ps 1 rfl ?_
    refine RW.cv rfl rfl rfl rfl rfl (c_bits16 m3 (by omega) (by omega) (sign_i x)) ?_
    intro o4 ⟨f4, b0, bk⟩
    have h4 := h3.scr f4 (by omega) (by omega)
    have m4 := m4.fr1 f4 (by omega)
    refine RW.ps 1 rfl ?_
    refine RW.gf h4.y h4.f4 ?_
    refine RW.ps 1 rfl ?_
    refine RW.gf h4.y h4.f2 ?_
    refine RW.ps 1 rfl ?_
    refine RW.ia h4.k2 hb.ix hb.lt ?_
    rw [h4.sv hb, hy]
    refine RW.ps 1 rfl ?_
    refine RW.cv rfl rfl rfl rfl rfl (c_bits16 m4 (by omega) (by omega) (sign_i y)) ?_
    intro o5 ⟨f5, e0, ek⟩
    have h5 := h4.scr f5 (by omega) (by omega)
    refine RW.ps 2 rfl ?_
    refine RW.weak (lv0 := [.ref Y, .int r, xj, xj, .int m, .int (Int32.ofInt ((N + 1 : Nat) : Int)), .int 1, xj]) ⟨Or.inr rfl, Or.inr rfl, Or.inl rfl, Or.inl rfl, Or.inr rfl, Or.inr rfl, Or.inr rfl, Or.inl rfl, trivial⟩ ?_
    refine RW.sk [] rfl ?_
    exact h134 (N + 1) 0 1 o5 (Nat.zero_add _) rfl h5 (by rw [f5.i (Out.one (by omega))]; exact b0) (fun k hk => absurd hk (Nat.not_lt_zero k)) (fun k _ hk => by rw [f5.i (Out.one (by omega))]; exact bk k hk) ek
  refine RW.weak (lv0 := [.ref Y, .int r, .int a, .int b, .int m, xj, xj, xj]) ⟨Or.inr rfl, Or.inr rfl, Or.inr rfl, Or.inr rfl, Or.inr rfl, Or.inl rfl, Or.inl rfl, Or.inl rfl, trivial⟩ ?_
  refine RW.sk [] rfl ?_
  refine RW.ps 1 rfl ?_
  refine RW.gf h3.y h3.f3 ?_
  refine RW.ps 1 rfl ?_
  refine RW.ia m3.1 i0n (by omega) ?_
  rw [m3.2.2.2.1]
  refine RW.ps 1 rfl ?_
  refine RW.gf h3.y h3.f4 ?_
  refine RW.ps 1 rfl ?_
  refine RW.ia m4.1 i0n (by omega) ?_
  rw [m4.2.2.2.1]
  refine RW.icm (fun k3 => ?_) (fun k3 => ?_)
  · rw [xi_le, iu (by omega), iu (by omega)] at k3
    refine RW.ps 1 rfl ?_
    refine RW.gf h3.y h3.f4 ?_
    refine RW.ps 1 rfl ?_
    refine RW.ia m4.1 i0n (by omega) ?_
    rw [m4.2.2.2.1, show n16 y.natAbs = N by omega]
    exact h97
  · rw [xi_le, iu (by omega), iu (by omega)] at k3
    refine RW.ps 1 rfl ?_
    refine RW.gf h3.y h3.f3 ?_
    refine RW.ps 1 rfl ?_
    refine RW.ia m3.1 i0n (by omega) ?_
    rw [m3.2.2.2.1, show n16 x.natAbs = N by omega]
    refine RW.go ?_
    exact h97
end C5
