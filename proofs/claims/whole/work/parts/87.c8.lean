/-! THE REFERENCE'S CALLS: root, common. -/
section C8
variable {o0 o o' : xO} {Y c : Nat} {z : Nat → Int} {t p : List Int32}
theorem c_mroot (h : MI o Y z t p c) {r a : Int32} : Ct y_M_root [.ref Y, .int r, .int a] o (MV o Y (s_root z r a) t p) := by
  have h := MS.start h
  have h33 : ∀ (cw : Int32) (c2 : Nat), cw = Int32.ofInt (c2 : Nat) → 0 < c2 → c2 < 3 → s_root z r a = (c2, z) → RW (MV o Y (s_root z r a) t p) y_M_root (xbk y_M_root 33) [.ref Y] [.int cw, .ref Y] o := by
    intro cw c2 hcw hc1 hc2 hsp
    subst hcw
    refine RW.pf h.y rfl rfl ?_
    have h1 := h.code c2
    refine RW.ps 1 rfl ?_
    refine RW.gf h1.y h1.cd ?_
    refine RW.ifc (fun k => ?_) (fun _ => ?_)
    · rw [xi_le, iu (by omega), i0] at k; omega
    exact RW.re rfl rfl (h1.mv hsp)
  have hbad : ¬ (okr r ∧ okr a) → RW (MV o Y (s_root z r a) t p) y_M_root (xbk y_M_root 15) [.ref Y] [.ref Y] o := by
    intro hno
    refine RW.ps 1 rfl ?_
    refine RW.go ?_
    exact h33 1 1 rfl (by decide) (by decide) (if_neg hno)
  refine RW.ps 2 rfl ?_
  by_cases hr : ¬ okr r
  · refine RW.cp rfl rfl rfl rfl rfl (c_isRegister r) ?_
    rw [if_neg hr]
    refine RW.ifc (fun _ => ?_) (fun k => absurd (xi_eq.mpr rfl) k)
    refine RW.weak (lv0 := [.ref Y]) ⟨Or.inr rfl, trivial⟩ ?_
    exact hbad (fun k => hr k.1)
  have hr := Classical.not_not.mp hr
  refine RW.cp rfl rfl rfl rfl rfl (c_isRegister r) ?_
  rw [if_pos hr]
  refine RW.ifc (fun k => absurd (xi_eq.mp k) (by decide)) (fun _ => ?_)
  refine RW.ps 1 rfl ?_
  by_cases ha : ¬ okr a
  · refine RW.cp rfl rfl rfl rfl rfl (c_isRegister a) ?_
    rw [if_neg ha]
    refine RW.ifc (fun k => absurd rfl (xi_ne.mp k)) (fun _ => ?_)
    refine RW.weak (lv0 := [.ref Y]) ⟨Or.inr rfl, trivial⟩ ?_
    exact hbad (fun k => ha k.2)
  have ha := Classical.not_not.mp ha
  refine RW.cp rfl rfl rfl rfl rfl (c_isRegister a) ?_
  rw [if_pos ha]
  refine RW.ifc (fun _ => ?_) (fun k => absurd (xi_ne.mpr (by decide)) k)
  have hsp : s_root z r a = (if z (rx a) < 0 then (2, z) else (0, upz z (rx r) (isq (z (rx a)).natAbs))) := if_pos ⟨hr, ha⟩
  refine RW.ps 1 rfl ?_
  refine RW.gf h.y h.f2 ?_
  refine RW.ps 1 rfl ?_
  refine RW.ia h.k2 ha.ix ha.lt ?_
  rw [h.sv ha]
  refine RW.ifc (fun k3 => ?_) (fun k3 => ?_)
  rotate_left
  · have k3 : z (rx a) < 0 := Int.not_le.mp (fun q => k3 (sign_lt.mpr q))
    refine RW.ps 1 rfl ?_
    refine RW.go ?_
    refine RW.weak (lv0 := [.ref Y]) ⟨Or.inr rfl, trivial⟩ ?_
    exact h33 2 2 rfl (by decide) (by decide) (by rw [hsp, if_pos k3])
  have k3 := sign_lt.mp k3
  rw [if_neg (by omega)] at hsp
  rw [hsp]
  clear h33 hbad hsp
  refine RW.ps 1 rfl ?_
  refine RW.pf h.y rfl rfl ?_
  have h1 : MS o (xpf o Y 0 (.int 0)) Y z t p 0 := h.code 0
  refine RW.ps 1 rfl ?_
  refine RW.gf h1.y h1.cd ?_
  refine RW.ifc (fun _ => ?_) (fun k => absurd (xi_le.mpr (by decide)) k)
  generalize xpf o Y 0 (.int 0) = o1 at h1 ⊢
  refine RW.weak (lv0 := [.ref Y, .int r, .int a, xj, xj, xj]) ⟨Or.inr rfl, Or.inr rfl, Or.inr rfl, Or.inl rfl, Or.inl rfl, Or.inl rfl, trivial⟩ ?_
  refine RW.sk [] rfl ?_
  refine RW.ps 3 rfl ?_
  refine RW.gf h1.y h1.f3 ?_
  refine RW.cv rfl rfl (xrc_v rfl rfl h1.y) rfl rfl (c_mload h1 ha 3 (by decide)) ?_
  intro o2 ⟨h2, m3, f2⟩
  have na := h2.n ha
  have ta := h2.top ha
  generalize hx : (z (rx a)).natAbs = x at *
  obtain ⟨s1, s2⟩ := isq_ok x
  have hsx : isq x ≤ x := by
    generalize isq x = s at *
    rcases Nat.eq_zero_or_pos s with g | g
    · omega
    · have := Nat.mul_le_mul_right s g; omega
  have hbl : nbit x ≤ 8192 := top_bits.mpr ta
  -- the end
  have h211 : ∀ w, MS o w Y z t p 0 → Mn w (Y + 4) 1200 (isq x) → ∀ l3 l4 l5, RW (MV o Y (0, upz z (rx r) (isq x)) t p) y_M_root (xbk y_M_root 211) [.ref Y, .int r, .int a, l3, l4, l5] [] w := by
    intro w hw m4 l3 l4 l5
    refine RW.weak (lv0 := [.ref Y, .int r, .int a]) ⟨Or.inr rfl, Or.inr rfl, Or.inr rfl, trivial⟩ ?_
    refine RW.sk [] rfl ?_
    have m4 : Mn w (Y + 4) 1200 ((isq x : Int)).natAbs := by rw [Int.natAbs_natCast]; exact m4
    refine RW.ps 3 rfl ?_
    refine RW.gf hw.y hw.f4 ?_
    refine RW.ps 1 rfl ?_
    refine RW.cv rfl rfl (xrc_v rfl rfl hw.y) rfl rfl (c_keep hw hr.ix hr.lt m4 (by decide) (by omega) (by omega) (by rw [Int.natAbs_natCast]; exact Nat.lt_of_le_of_lt hsx ta) (fun hne => by rw [Int.sign_eq_one_of_pos (by omega)]; rfl)) ?_
    intro w2 hw2
    exact RW.re rfl rfl (hw2.mv rfl)
  -- Newton's way
  have step : 0 < x → ∀ g w l5, ((nxt x g < g ∧ ∀ w' l5', MS o w' Y z t p 0 → Mn w' (Y + 3) 1200 x → Mn w' (Y + 4) 1200 (nxt x g) → RW (MV o Y (0, upz z (rx r) (isq x)) t p) y_M_root (xbk y_M_root 105) [.ref Y, .int r, .int a, xj, .int 1, l5'] [] w') ∨ (¬ nxt x g < g ∧ g = isq x)) → n16 g ≤ 1000 → MS o w Y z t p 0 → Mn w (Y + 3) 1200 x → Mn w (Y + 4) 1200 g → (0 < g) → RW (MV o Y (0, upz z (rx r) (isq x)) t p) y_M_root (xbk y_M_root 105) [.ref Y, .int r, .int a, xj, .int 1, l5] [] w := by
      intro hx0 g w l5 hc hgn hw m3 m4 hg
      refine RW.weak (lv0 := [.ref Y, .int r, .int a, xj, .int 1, xj]) ⟨Or.inr rfl, Or.inr rfl, Or.inr rfl, Or.inl rfl, Or.inr rfl, Or.inl rfl, trivial⟩ ?_
      refine RW.sk [] rfl ?_
      refine RW.ps 1 rfl ?_
      refine RW.ifc (fun k => absurd (xi_eq.mp k) (by decide)) (fun _ => ?_)
      refine RW.ps 2 rfl ?_
      refine RW.gf hw.y hw.f3 ?_
      refine RW.ps 1 rfl ?_
      refine RW.gf hw.y hw.f4 ?_
      refine RW.cv rfl rfl (xrc_v rfl rfl hw.y) rfl rfl (c_divideRows hw.2.1 m3 m4 (by omega) (by omega) hg (by omega) (by omega)) ?_
      intro w2 ⟨f2, q2, r2⟩
      have hw2 := hw.scr f2 (by omega) (by omega)
      have m3 := m3.fr1 f2 (by omega)
      have m4 := m4.fr1 f2 (by omega)
      have hqn : n16 (x / g) ≤ 512 := Nat.le_trans (n16_mono (Nat.div_le_self _ _)) na
      refine RW.weak (lv0 := [.ref Y, .int r, .int a, xj, xj, xj]) ⟨Or.inr rfl, Or.inr rfl, Or.inr rfl, Or.inl rfl, Or.inl rfl, Or.inl rfl, trivial⟩ ?_
      refine RW.sk [] rfl ?_
      refine RW.ps 1 rfl ?_
      refine RW.gf hw2.y hw2.f9 ?_
      refine RW.ps 1 rfl ?_
      refine RW.gf hw2.y hw2.f5 ?_
      refine RW.cv rfl rfl rfl rfl rfl (c_copy q2 (by decide) hw2.k5 (by omega) (by omega)) ?_
      intro w3 ⟨f3, q3⟩
      have hw3 := hw2.scr f3 (by omega) (by omega)
      have m3 := m3.fr1 f3 (by omega)
      have m4 := m4.fr1 f3 (by omega)
      have q3 : Mn w3 (Y + 5) 1200 (x / g) := q3
      refine RW.ps 1 rfl ?_
      refine RW.gf hw3.y hw3.f5 ?_
      refine RW.ps 1 rfl ?_
      refine RW.gf hw3.y hw3.f4 ?_
      refine RW.cv rfl rfl rfl rfl rfl (c_addTo q3 m4 (by decide) (by decide) (by omega) (by omega)) ?_
      intro w4 ⟨f4, q4⟩
      have hw4 := hw3.scr f4 (by omega) (by omega)
      have m3 := m3.fr1 f4 (by omega)
      have m4 := m4.fr1 f4 (by omega)
      refine RW.ps 1 rfl ?_
      refine RW.gf hw4.y hw4.f5 ?_
      refine RW.ps 1 rfl ?_
      refine RW.cq rfl rfl rfl rfl rfl (c_divideSmall (d := 2) q4 (by decide) rfl (by decide) (by decide)) ?_
      intro v w5 ⟨hv, f5, q5⟩
      subst hv
      have hw5 := hw4.scr f5 (by omega) (by omega)
      have m3 := m3.fr1 f5 (by omega)
      have m4 := m4.fr1 f5 (by omega)
      have q5 : Mn w5 (Y + 5) 1200 (nxt x g) := q5
      refine RW.ps 2 rfl ?_
      refine RW.gf hw5.y hw5.f5 ?_
      refine RW.ps 1 rfl ?_
      refine RW.gf hw5.y hw5.f4 ?_
      refine RW.weak (lv0 := [.ref Y, .int r, .int a, xj, xj, .int (Int32.ofInt (((x / g + g) % 2 : Nat) : Int))]) ⟨Or.inr rfl, Or.inr rfl, Or.inr rfl, Or.inl rfl, Or.inl rfl, Or.inr rfl, trivial⟩ ?_
      refine RW.sk [.ref (Y + 4), .ref (Y + 5)] rfl ?_
      refine RW.cp rfl rfl rfl rfl rfl (c_compareRows q5 m4 (by decide) (by decide)) ?_
      rcases hc with ⟨hc1, hc2⟩ | ⟨hc1, hc2⟩
      · rw [cmpI_lt hc1]
        refine RW.ifc (fun k => absurd (xi_ge.mp k) (by decide)) (fun _ => ?_)
        refine RW.ps 1 rfl ?_
        refine RW.go ?_
        refine RW.ps 2 rfl ?_
        refine RW.ifc (fun k => absurd (xi_eq.mp k) (by decide)) (fun _ => ?_)
        have hnn : n16 (nxt x g) ≤ 1000 := Nat.le_trans (n16_mono (Nat.le_of_lt hc1)) hgn
        refine RW.ps 1 rfl ?_
        refine RW.gf hw5.y hw5.f5 ?_
        refine RW.ps 1 rfl ?_
        refine RW.gf hw5.y hw5.f4 ?_
        refine RW.cv rfl rfl rfl rfl rfl (c_copy q5 (by decide) hw5.k4 (by omega) (by omega)) ?_
        intro w6 ⟨f6, q6⟩
        refine RW.go ?_
        refine RW.weak (lv0 := [.ref Y, .int r, .int a, xj, .int 1, xj]) ⟨Or.inr rfl, Or.inr rfl, Or.inr rfl, Or.inl rfl, Or.inr rfl, Or.inl rfl, trivial⟩ ?_
        refine RW.sk [] rfl ?_
        exact hc2 w6 _ (hw5.scr f6 (by omega) (by omega)) (m3.fr1 f6 (by omega)) q6
      · have hge : xcd .ge (cmpI (nxt x g) g) 0 := by
          rw [xi_ge, i0]
          have := cmpI_lt0 (x := nxt x g) (y := g)
          rw [i0] at this; omega
        refine RW.ifc (fun _ => ?_) (fun k => absurd hge k)
        refine RW.ps 3 rfl ?_
        refine RW.ifc (fun _ => ?_) (fun k => absurd (xi_eq.mpr rfl) k)
        refine RW.go ?_
        refine RW.weak (lv0 := [.ref Y, .int r, .int a, xj, .int 0, xj]) ⟨Or.inr rfl, Or.inr rfl, Or.inr rfl, Or.inl rfl, Or.inr rfl, Or.inl rfl, trivial⟩ ?_
        refine RW.sk [] rfl ?_
        refine RW.ps 1 rfl ?_
        refine RW.ifc (fun _ => ?_) (fun k => absurd (xi_eq.mpr rfl) k)
        refine RW.ps 1 rfl ?_
        refine RW.gf hw5.y hw5.f3 ?_
        refine RW.ps 1 rfl ?_
        refine RW.ia m3.1 i0n (by omega) ?_
        rw [m3.2.2.2.1]
        refine RW.ifc (fun _ => ?_) (fun k => ?_)
        rotate_left
        · rw [xi_ne, iu (by omega), i0] at k
          have := n16_zero.mp (show n16 x = 0 by omega); omega
        rw [hc2] at m4
        exact h211 w5 hw5 m4 _ _ _
  have loop : 0 < x → ∀ N g w l5, Con x (isq x) N g → n16 g ≤ 1000 → MS o w Y z t p 0 → Mn w (Y + 3) 1200 x → Mn w (Y + 4) 1200 g → RW (MV o Y (0, upz z (rx r) (isq x)) t p) y_M_root (xbk y_M_root 105) [.ref Y, .int r, .int a, xj, .int 1, l5] [] w := by
    intro hx0 N
    have hs0 : 0 < isq x := by
      rcases Nat.eq_zero_or_pos (isq x) with g | g
      · rw [g] at s2; omega
      · exact g
    induction N with
    | zero =>
      intro g w l5 hc hgn hw m3 m4
      have hc : g = isq x := hc
      refine step hx0 g w l5 (Or.inr ⟨?_, hc⟩) hgn hw m3 m4 (by omega)
      rw [hc]
      unfold nxt
      have h1 : isq x ≤ x / isq x := by rw [Nat.le_div_iff_mul_le hs0]; exact s1
      generalize x / isq x = q at *
      omega
    | succ N ih =>
      intro g w l5 hc hgn hw m3 m4
      rcases hc with ⟨hc1, hc2⟩ | ⟨hc0, ⟨hc1, hc2⟩ | ⟨hc1, hc2⟩⟩
      · omega
      · exact step hx0 g w l5 (Or.inl ⟨hc1, fun w' l5' q1 q2 q3 => ih (nxt x g) w' l5' hc2 (Nat.le_trans (n16_mono (Nat.le_of_lt hc1)) hgn) q1 q2 q3⟩) hgn hw m3 m4 hc0
      · exact step hx0 g w l5 (Or.inr ⟨hc1, hc2⟩) hgn hw m3 m4 hc0
  refine RW.ps 1 rfl ?_
  refine RW.gf h2.y h2.f4 ?_
  refine RW.ps 1 rfl ?_
  refine RW.cv rfl rfl rfl rfl rfl (c_small (v := 0) h2.k4 (by decide) rfl (by decide)) ?_
  intro o3 ⟨f3, m4⟩
  have h3 := h2.scr f3 (by omega) (by omega)
  have m3 := m3.fr1 f3 (by omega)
  refine RW.ps 1 rfl ?_
  refine RW.gf h3.y h3.f3 ?_
  refine RW.cp rfl rfl rfl rfl rfl (c_bitsOf16 m3 (by decide)) ?_
  refine RW.ps 3 rfl ?_
  refine RW.idv (by decide) ?_
  refine RW.top (congrArg Value.int ((show (Int32.ofInt (nbit x : Nat) + 1) / 2 = Int32.ofInt (((nbit x + 1) / 2 : Nat) : Int) by rw [is1, show (2 : Int32) = Int32.ofInt ((2 : Nat) : Int) by decide]; exact i_div (by omega) (by decide)))) ?_
  refine RW.ps 2 rfl ?_
  refine RW.weak (lv0 := [.ref Y, .int r, .int a, .int (Int32.ofInt (((nbit x + 1) / 2 : Nat) : Int)), xj, xj]) ⟨Or.inr rfl, Or.inr rfl, Or.inr rfl, Or.inr rfl, Or.inl rfl, Or.inl rfl, trivial⟩ ?_
  refine RW.sk [.ref Y] rfl ?_
  refine RW.gf h3.y h3.f4 ?_
  refine RW.ps 1 rfl ?_
  refine RW.cv rfl rfl rfl rfl rfl (c_small (v := 1) h3.k4 (by decide) rfl (by decide)) ?_
  intro o4 ⟨f4, m5⟩
  have h4 := h3.scr f4 (by omega) (by omega)
  have m3 := m3.fr1 f4 (by omega)
  refine RW.ps 1 rfl ?_
  refine RW.gf h4.y h4.f4 ?_
  refine RW.ps 1 rfl ?_
  refine RW.cv rfl rfl rfl rfl rfl (c_up m5 (iu (u := (nbit x + 1) / 2) (by omega)) (by decide +kernel) (by omega)) ?_
  intro o5 ⟨f5, m6⟩
  rw [Nat.one_mul] at m6
  have h5 := h4.scr f5 (by omega) (by omega)
  have m3 := m3.fr1 f5 (by omega)
  refine RW.weak (lv0 := [.ref Y, .int r, .int a, xj, xj, xj]) ⟨Or.inr rfl, Or.inr rfl, Or.inr rfl, Or.inl rfl, Or.inl rfl, Or.inl rfl, trivial⟩ ?_
  refine RW.sk [] rfl ?_
  refine RW.ps 1 rfl ?_
  refine RW.gf h5.y h5.f3 ?_
  refine RW.ps 1 rfl ?_
  refine RW.ia m3.1 i0n (by omega) ?_
  rw [m3.2.2.2.1]
  refine RW.ifc (fun k => ?_) (fun k => ?_)
  · rw [xi_le, iu (by omega), i0] at k
    have hx0 : x = 0 := n16_zero.mp (by omega)
    refine RW.ps 2 rfl ?_
    refine RW.weak (lv0 := [.ref Y, .int r, .int a, xj, .int 0, xj]) ⟨Or.inr rfl, Or.inr rfl, Or.inr rfl, Or.inl rfl, Or.inr rfl, Or.inl rfl, trivial⟩ ?_
    refine RW.sk [] rfl ?_
    refine RW.ps 1 rfl ?_
    refine RW.ifc (fun _ => ?_) (fun k => absurd (xi_eq.mpr rfl) k)
    refine RW.ps 1 rfl ?_
    refine RW.gf h5.y h5.f3 ?_
    refine RW.ps 1 rfl ?_
    refine RW.ia m3.1 i0n (by omega) ?_
    rw [m3.2.2.2.1]
    refine RW.ifc (fun k => ?_) (fun _ => ?_)
    · rw [xi_ne, iu (by omega), i0] at k; omega
    refine RW.ps 1 rfl ?_
    refine RW.gf h5.y h5.f4 ?_
    refine RW.ps 1 rfl ?_
    refine RW.cv rfl rfl rfl rfl rfl (c_small (v := 0) h5.k4 (by decide) rfl (by decide)) ?_
    intro o6 ⟨f6, m7⟩
    refine h211 o6 (h5.scr f6 (by omega) (by omega)) ?_ _ _ _
    rw [hx0]; exact m7
  · rw [xi_le, iu (by omega), i0] at k
    have hx0 : 0 < x := by
      rcases Nat.eq_zero_or_pos x with g | g
      · exact absurd (by rw [n16_zero.mpr g]; decide) k
      · exact g
    obtain ⟨g1, g2⟩ := root_first s1 s2
    have hsT : isq x < 2 ^ 8193 := Nat.lt_of_le_of_lt hsx (Nat.lt_trans ta (Nat.pow_lt_pow_right (by decide) (by decide)))
    have hcon := con_all s1 s2 hsT g1 g2
    refine RW.ps 1 rfl ?_
    refine RW.go ?_
    refine RW.ps 1 rfl ?_
    refine RW.weak (lv0 := [.ref Y, .int r, .int a, xj, .int 1, xj]) ⟨Or.inr rfl, Or.inr rfl, Or.inr rfl, Or.inl rfl, Or.inr rfl, Or.inl rfl, trivial⟩ ?_
    refine RW.sk [] rfl ?_
    refine loop hx0 1000 _ o5 _ hcon ?_ h5 m3 m6
    rw [n16_le, b16]
    exact Nat.pow_lt_pow_right (by decide) (by omega)
theorem c_mcommon (h : MI o Y z t p c) {r a b : Int32} : Ct y_M_common [.ref Y, .int r, .int a, .int b] o (MV o Y (s_common z r a b) t p) := by
  have h := MS.start h
  have hbad : ¬ (okr r ∧ okr a ∧ okr b) → RW (MV o Y (s_common z r a b) t p) y_M_common (xbk y_M_common 26) [.ref Y] [.ref Y] o := by
    intro hno
    refine RW.ps 1 rfl ?_
    refine RW.pf h.y rfl rfl ?_
    have h1 : MS o (xpf o Y 0 (.int 1)) Y z t p 1 := h.code 1
    refine RW.ps 1 rfl ?_
    refine RW.gf h1.y h1.cd ?_
    refine RW.ifc (fun k => absurd (xi_le.mp k) (by decide)) (fun _ => ?_)
    exact RW.re rfl rfl (h1.mv (if_neg hno))
  refine RW.ps 2 rfl ?_
  by_cases hr : ¬ okr r
  · refine RW.cp rfl rfl rfl rfl rfl (c_isRegister r) ?_
    rw [if_neg hr]
    refine RW.ifc (fun _ => ?_) (fun k => absurd (xi_eq.mpr rfl) k)
    refine RW.weak (lv0 := [.ref Y]) ⟨Or.inr rfl, trivial⟩ ?_
    exact hbad (fun k => hr k.1)
  have hr := Classical.not_not.mp hr
  refine RW.cp rfl rfl rfl rfl rfl (c_isRegister r) ?_
  rw [if_pos hr]
  refine RW.ifc (fun k => absurd (xi_eq.mp k) (by decide)) (fun _ => ?_)
  refine RW.ps 1 rfl ?_
  by_cases ha : ¬ okr a
  · refine RW.cp rfl rfl rfl rfl rfl (c_isRegister a) ?_
    rw [if_neg ha]
    refine RW.ifc (fun _ => ?_) (fun k => absurd (xi_eq.mpr rfl) k)
    refine RW.weak (lv0 := [.ref Y]) ⟨Or.inr rfl, trivial⟩ ?_
    exact hbad (fun k => ha k.2.1)
  have ha := Classical.not_not.mp ha
  refine RW.cp rfl rfl rfl rfl rfl (c_isRegister a) ?_
  rw [if_pos ha]
  refine RW.ifc (fun k => absurd (xi_eq.mp k) (by decide)) (fun _ => ?_)
  refine RW.ps 1 rfl ?_
  by_cases hb : ¬ okr b
  · refine RW.cp rfl rfl rfl rfl rfl (c_isRegister b) ?_
    rw [if_neg hb]
    refine RW.ifc (fun _ => ?_) (fun k => absurd (xi_eq.mpr rfl) k)
    refine RW.weak (lv0 := [.ref Y]) ⟨Or.inr rfl, trivial⟩ ?_
    exact hbad (fun k => hb k.2.2)
  have hb := Classical.not_not.mp hb
  refine RW.cp rfl rfl rfl rfl rfl (c_isRegister b) ?_
  rw [if_pos hb]
  refine RW.ifc (fun k => absurd (xi_eq.mp k) (by decide)) (fun _ => ?_)
  refine RW.ps 1 rfl ?_
  refine RW.go ?_
  refine RW.pf h.y rfl rfl ?_
  have h1 : MS o (xpf o Y 0 (.int 0)) Y z t p 0 := h.code 0
  refine RW.ps 1 rfl ?_
  refine RW.gf h1.y h1.cd ?_
  refine RW.ifc (fun _ => ?_) (fun k => absurd (xi_le.mpr (by decide)) k)
  generalize xpf o Y 0 (.int 0) = o1 at h1 ⊢
  have hsp : s_common z r a b = (0, upz z (rx r) (Nat.gcd (z (rx a)).natAbs (z (rx b)).natAbs)) := if_pos ⟨hr, ha, hb⟩
  rw [hsp]
  refine RW.weak (lv0 := [.ref Y, .int r, .int a, .int b]) ⟨Or.inr rfl, Or.inr rfl, Or.inr rfl, Or.inr rfl, trivial⟩ ?_
  refine RW.sk [] rfl ?_
  refine RW.ps 3 rfl ?_
  refine RW.gf h1.y h1.f3 ?_
  refine RW.cv rfl rfl (xrc_v rfl rfl h1.y) rfl rfl (c_mload h1 ha 3 (by decide)) ?_
  intro o2 ⟨h2, m2, f2⟩
  refine RW.ps 3 rfl ?_
  refine RW.gf h2.y h2.f4 ?_
  refine RW.cv rfl rfl (xrc_v rfl rfl h2.y) rfl rfl (c_mload h2 hb 4 (by decide)) ?_
  intro o3 ⟨h3, m4, f3⟩
  have m3 := m2.fr1 f3 (by omega)
  have na := h3.n ha
  have nb := h3.n hb
  have tg := gcd_top (h3.top ha) (h3.top hb)
  generalize (z (rx a)).natAbs = x at *
  generalize (z (rx b)).natAbs = y at *
  have loop : ∀ m B A w, B ≤ m → Nat.gcd A B = Nat.gcd x y → n16 A ≤ 512 → n16 B ≤ 512 → MS o w Y z t p 0 → Mn w (Y + 3) 1200 A → Mn w (Y + 4) 1200 B → RW (MV o Y (0, upz z (rx r) (Nat.gcd x y)) t p) y_M_common (xbk y_M_common 56) [.ref Y, .int r, .int a, .int b] [] w := by
    intro m
    have hend : ∀ A B w, B = 0 → Nat.gcd A B = Nat.gcd x y → MS o w Y z t p 0 → Mn w (Y + 3) 1200 A → RW (MV o Y (0, upz z (rx r) (Nat.gcd x y)) t p) y_M_common (xbk y_M_common 102) [.ref Y, .int r, .int a, .int b] [] w := by
      intro A B w hB hg hw m3
      rw [hB, Nat.gcd_zero_right] at hg
      rw [hg] at m3
      have m3 : Mn w (Y + 3) 1200 ((Nat.gcd x y : Nat) : Int).natAbs := by rw [Int.natAbs_natCast]; exact m3
      refine RW.ps 3 rfl ?_
      refine RW.gf hw.y hw.f3 ?_
      refine RW.ps 1 rfl ?_
      refine RW.cv rfl rfl (xrc_v rfl rfl hw.y) rfl rfl (c_keep hw hr.ix hr.lt m3 (by decide) (by omega) (by omega) (by rw [Int.natAbs_natCast]; exact tg) (fun hne => by rw [Int.sign_eq_one_of_pos (by omega)]; rfl)) ?_
      intro w2 hw2
      exact RW.re rfl rfl (hw2.mv rfl)
    induction m with
    | zero =>
      intro B A w hBm hg hnA hnB hw m3 m4
      have hB0 : B = 0 := Nat.le_zero.mp hBm
      refine RW.ps 1 rfl ?_
      refine RW.gf hw.y hw.f4 ?_
      refine RW.ps 1 rfl ?_
      refine RW.ia m4.1 i0n (by omega) ?_
      rw [m4.2.2.2.1]
      refine RW.ifc (fun _ => hend A B w hB0 hg hw m3) (fun k => ?_)
      rw [xi_le, iu (by omega), i0, n16_zero.mpr hB0] at k; omega
    | succ m ih =>
      intro B A w hBm hg hnA hnB hw m3 m4
      refine RW.ps 1 rfl ?_
      refine RW.gf hw.y hw.f4 ?_
      refine RW.ps 1 rfl ?_
      refine RW.ia m4.1 i0n (by omega) ?_
      rw [m4.2.2.2.1]
      refine RW.ifc (fun k => ?_) (fun k => ?_)
      · rw [xi_le, iu (by omega), i0] at k
        exact hend A B w (n16_zero.mp (by omega)) hg hw m3
      have hB0 : 0 < B := by
        rcases Nat.eq_zero_or_pos B with g | g
        · exact absurd (xi_le.mpr (by rw [n16_zero.mpr g]; decide)) k
        · exact g
      have hlt := Nat.mod_lt A hB0
      refine RW.ps 2 rfl ?_
      refine RW.gf hw.y hw.f3 ?_
      refine RW.ps 1 rfl ?_
      refine RW.gf hw.y hw.f4 ?_
      refine RW.cv rfl rfl (xrc_v rfl rfl hw.y) rfl rfl (c_divideRows hw.2.1 m3 m4 (by omega) (by omega) hB0 (by omega) (by omega)) ?_
      intro w2 ⟨f2, q2, r2⟩
      have hw2 := hw.scr f2 (by omega) (by omega)
      have m4 := m4.fr1 f2 (by omega)
      refine RW.weak (lv0 := [.ref Y, .int r, .int a, .int b]) ⟨Or.inr rfl, Or.inr rfl, Or.inr rfl, Or.inr rfl, trivial⟩ ?_
      refine RW.sk [] rfl ?_
      refine RW.ps 1 rfl ?_
      refine RW.gf hw2.y hw2.f4 ?_
      refine RW.ps 1 rfl ?_
      refine RW.gf hw2.y hw2.f3 ?_
      refine RW.cv rfl rfl rfl rfl rfl (c_copy m4 (by decide) hw2.k3 (by omega) (by omega)) ?_
      intro w3 ⟨f3, q3⟩
      have hw3 := hw2.scr f3 (by omega) (by omega)
      have r3 := r2.fr1 f3 (by omega)
      have hrn : n16 (A % B) ≤ 512 := Nat.le_trans (n16_mono (Nat.le_of_lt hlt)) hnB
      refine RW.ps 1 rfl ?_
      refine RW.gf hw3.y hw3.f10 ?_
      refine RW.ps 1 rfl ?_
      refine RW.gf hw3.y hw3.f4 ?_
      refine RW.cv rfl rfl rfl rfl rfl (c_copy r3 (by decide) hw3.k4 (by omega) (by omega)) ?_
      intro w4 ⟨f4, q4⟩
      have q3 := q3.fr1 f4 (by omega)
      refine RW.go ?_
      refine RW.weak (lv0 := [.ref Y, .int r, .int a, .int b]) ⟨Or.inr rfl, Or.inr rfl, Or.inr rfl, Or.inr rfl, trivial⟩ ?_
      refine RW.sk [] rfl ?_
      refine ih (A % B) B w4 (by omega) ?_ hnB hrn (hw3.scr f4 (by omega) (by omega)) q3 q4
      rw [← hg, Nat.gcd_comm A B, Nat.gcd_rec B A, Nat.gcd_comm]
  refine RW.weak (lv0 := [.ref Y, .int r, .int a, .int b]) ⟨Or.inr rfl, Or.inr rfl, Or.inr rfl, Or.inr rfl, trivial⟩ ?_
  refine RW.sk [] rfl ?_
  exact loop y y x o3 (Nat.le_refl _) rfl na nb h3 m3 m4
end C8
