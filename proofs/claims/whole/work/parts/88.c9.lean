/-! THE REFERENCE'S CALLS: needs, powerRest. -/
section C9
variable {o0 o o' : xO} {Y c : Nat} {z : Nat → Int} {t p : List Int32}
theorem c_needs (h : MS o0 o Y z t p c) {r : Int32} (hr : okr r) : Cq y_M_needs [.ref Y, .int r] o (fun v o' => v = .int (Int32.ofInt (nbit (core (z (rx r))) : Nat)) ∧ MS o0 o' Y z t p c ∧ Mn o' (Y + 7) 1200 (core (z (rx r))) ∧ Fr [(Y + 7, 1)] o o') := by
  refine RW.ps 3 rfl ?_
  refine RW.gf h.y h.f7 ?_
  refine RW.cv rfl rfl (xrc_v rfl rfl h.y) rfl rfl (c_mload h hr 7 (by decide)) ?_
  intro o2 ⟨h2, m2, f2⟩
  refine RW.ps 1 rfl ?_
  refine RW.gf h2.y h2.f2 ?_
  refine RW.ps 1 rfl ?_
  refine RW.ia h2.k2 hr.ix hr.lt ?_
  rw [h2.sv hr]
  generalize hx : z (rx r) = x at *
  have h25 : ∀ o3, MS o0 o3 Y z t p c → Mn o3 (Y + 7) 1200 (core x) → Fr [(Y + 7, 1)] o o3 → RW (fun q o' => ∃ v, q = .inl (some v) ∧ (v = .int (Int32.ofInt (nbit (core x) : Nat)) ∧ MS o0 o' Y z t p c ∧ Mn o' (Y + 7) 1200 (core x) ∧ Fr [(Y + 7, 1)] o o')) y_M_needs (xbk y_M_needs 25) [.ref Y] [] o3 := by
    intro o3 h3 m3 f3
    refine RW.ps 1 rfl ?_
    refine RW.gf h3.y h3.f7 ?_
    refine RW.cp rfl rfl rfl rfl rfl (c_bitsOf16 m3 (by decide)) ?_
    exact RW.re rfl rfl ⟨_, rfl, rfl, h3, m3, f3⟩
  rcases sgn_cases x with ⟨hs1, hs2⟩ | ⟨hs1, hs2⟩
  · refine RW.ifc (fun k => ?_) (fun _ => ?_)
    · have := sign_lt.mp k; omega
    have hcx : x.natAbs = core x + 1 := by unfold core; rw [hs1, if_pos rfl]; omega
    rw [hcx] at m2
    refine RW.ps 1 rfl ?_
    refine RW.gf h2.y h2.f7 ?_
    refine RW.cv rfl rfl rfl rfl rfl (c_takeOne m2 (by decide)) ?_
    intro o3 ⟨f3, m3⟩
    refine RW.weak (lv0 := [.ref Y]) ⟨Or.inr rfl, trivial⟩ ?_
    refine RW.sk [] rfl ?_
    exact h25 o3 (h2.scr f3 (by omega) (by omega)) m3 (f2.trans f3)
  · refine RW.ifc (fun _ => ?_) (fun k => absurd (sign_lt.mpr hs2) k)
    have hcx : core x = x.natAbs := by unfold core; rw [hs1, if_neg Bool.false_ne_true]
    rw [← hcx] at m2
    refine RW.weak (lv0 := [.ref Y]) ⟨Or.inr rfl, trivial⟩ ?_
    refine RW.sk [] rfl ?_
    exact h25 o2 h2 m2 f2
theorem c_mpowerRest (h : MI o Y z t p c) {r a b m : Int32} : Ct y_M_powerRest [.ref Y, .int r, .int a, .int b, .int m] o (MV o Y (s_powerRest z r a b m) t p) := by
  have h := MS.start h
  have h93 : ∀ (cw : Int32) (c2 : Nat) o1, MS o o1 Y z t p c → cw = Int32.ofInt (c2 : Nat) → 0 < c2 → c2 < 3 → s_powerRest z r a b m = (c2, z) → RW (MV o Y (s_powerRest z r a b m) t p) y_M_powerRest (xbk y_M_powerRest 93) [.ref Y] [.int cw, .ref Y] o1 := by
    intro cw c2 o1 h hcw hc1 hc2 hsp
    subst hcw
    refine RW.pf h.y rfl rfl ?_
    have h1 := h.code c2
    refine RW.ps 1 rfl ?_
    refine RW.gf h1.y h1.cd ?_
    refine RW.ifc (fun k => ?_) (fun _ => ?_)
    · rw [xi_le, iu (by omega), i0] at k; omega
    exact RW.re rfl rfl (h1.mv hsp)
  have h65 : ∀ o1, MS o o1 Y z t p c → s_powerRest z r a b m = (1, z) → RW (MV o Y (s_powerRest z r a b m) t p) y_M_powerRest (xbk y_M_powerRest 65) [.ref Y] [.ref Y] o1 := by
    intro o1 h hsp
    refine RW.ps 1 rfl ?_
    refine RW.go ?_
    exact h93 1 1 o1 h rfl (by decide) (by decide) hsp
  have hbad : ¬ (okr r ∧ okr a ∧ okr b ∧ okr m) → RW (MV o Y (s_powerRest z r a b m) t p) y_M_powerRest (xbk y_M_powerRest 33) [.ref Y, .int r, .int a, .int b, .int m, xj, xj] [] o := by
    intro hno
    refine RW.ps 1 rfl ?_
    refine RW.ps 3 rfl ?_
    refine RW.ifc (fun _ => ?_) (fun k => absurd (xi_eq.mpr rfl) k)
    refine RW.weak (lv0 := [.ref Y]) ⟨Or.inr rfl, trivial⟩ ?_
    exact h65 o h (if_neg (fun k => hno ⟨k.1, k.2.1, k.2.2.1, k.2.2.2.1⟩))
  refine RW.ps 1 rfl ?_
  by_cases hr : ¬ okr r
  · refine RW.cp rfl rfl rfl rfl rfl (c_isRegister r) ?_
    rw [if_neg hr]
    refine RW.ifc (fun _ => ?_) (fun k => absurd (xi_eq.mpr rfl) k)
    exact hbad (fun k => hr k.1)
  have hr := Classical.not_not.mp hr
  refine RW.cp rfl rfl rfl rfl rfl (c_isRegister r) ?_
  rw [if_pos hr]
  refine RW.ifc (fun k => absurd (xi_eq.mp k) (by decide)) (fun _ => ?_)
  refine RW.ps 1 rfl ?_
  by_cases ha : ¬ okr a
  · refine RW.cp rfl rfl rfl rfl rfl (c_isRegister a) ?_
    rw [if_neg ha]
    refine RW.ifc (fun _ => ?_) (fun k => absurd (xi_eq.mpr rfl) k)
    exact hbad (fun k => ha k.2.1)
  have ha := Classical.not_not.mp ha
  refine RW.cp rfl rfl rfl rfl rfl (c_isRegister a) ?_
  rw [if_pos ha]
  refine RW.ifc (fun k => absurd (xi_eq.mp k) (by decide)) (fun _ => ?_)
  refine RW.ps 1 rfl ?_
  by_cases hb : ¬ okr b
  · refine RW.cp rfl rfl rfl rfl rfl (c_isRegister b) ?_
    rw [if_neg hb]
    refine RW.ifc (fun _ => ?_) (fun k => absurd (xi_eq.mpr rfl) k)
    exact hbad (fun k => hb k.2.2.1)
  have hb := Classical.not_not.mp hb
  refine RW.cp rfl rfl rfl rfl rfl (c_isRegister b) ?_
  rw [if_pos hb]
  refine RW.ifc (fun k => absurd (xi_eq.mp k) (by decide)) (fun _ => ?_)
  refine RW.ps 1 rfl ?_
  by_cases hm : ¬ okr m
  · refine RW.cp rfl rfl rfl rfl rfl (c_isRegister m) ?_
    rw [if_neg hm]
    refine RW.ifc (fun _ => ?_) (fun k => absurd (xi_eq.mpr rfl) k)
    exact hbad (fun k => hm k.2.2.2)
  have hm := Classical.not_not.mp hm
  refine RW.cp rfl rfl rfl rfl rfl (c_isRegister m) ?_
  rw [if_pos hm]
  refine RW.ifc (fun k => absurd (xi_eq.mp k) (by decide)) (fun _ => ?_)
  clear hbad
  refine RW.ps 1 rfl ?_
  refine RW.go ?_
  refine RW.ps 3 rfl ?_
  refine RW.weak (lv0 := [.ref Y, .int r, .int a, .int b, .int m, .int 1, xj]) ⟨Or.inr rfl, Or.inr rfl, Or.inr rfl, Or.inr rfl, Or.inr rfl, Or.inr rfl, Or.inl rfl, trivial⟩ ?_
  refine RW.sk [.int 1, .ref Y] rfl ?_
  refine RW.ifc (fun k => absurd (xi_eq.mp k) (by decide)) (fun _ => ?_)
  have hcb := nbit_le.mpr (Nat.lt_of_le_of_lt (core_le _) (h.top hb))
  have hcm := nbit_le.mpr (Nat.lt_of_le_of_lt (core_le _) (h.top hm))
  refine RW.ps 2 rfl ?_
  refine RW.cq rfl rfl (xrc_v rfl rfl h.y) rfl rfl (c_needs h hb) ?_
  intro v o2 ⟨hv, h2, m2, f2⟩
  subst hv
  refine RW.ps 1 rfl ?_
  refine RW.icm (fun k => ?_) (fun k => ?_)
  · rw [xi_gt, iu (by omega), show (512 : Int32).toInt = 512 from rfl] at k
    refine RW.weak (lv0 := [.ref Y]) ⟨Or.inr rfl, trivial⟩ ?_
    exact h65 o2 h2 (if_neg (fun q => by have := q.2.2.2.2.1; omega))
  rw [xi_gt, iu (by omega), show (512 : Int32).toInt = 512 from rfl] at k
  refine RW.weak (lv0 := [.ref Y, .int r, .int a, .int b, .int m, xj, xj]) ⟨Or.inr rfl, Or.inr rfl, Or.inr rfl, Or.inr rfl, Or.inr rfl, Or.inl rfl, Or.inl rfl, trivial⟩ ?_
  refine RW.ps 2 rfl ?_
  refine RW.cq rfl rfl (xrc_v rfl rfl h2.y) rfl rfl (c_needs h2 hm) ?_
  intro v o3 ⟨hv, h3, m3, f3⟩
  subst hv
  refine RW.ps 1 rfl ?_
  refine RW.icm (fun k2 => ?_) (fun k2 => ?_)
  rotate_left
  · rw [xi_le, iu (by omega), show (512 : Int32).toInt = 512 from rfl] at k2
    refine RW.weak (lv0 := [.ref Y]) ⟨Or.inr rfl, trivial⟩ ?_
    exact h65 o3 h3 (if_neg (fun q => by have := q.2.2.2.2.2; omega))
  rw [xi_le, iu (by omega), show (512 : Int32).toInt = 512 from rfl] at k2
  have hsp : s_powerRest z r a b m = (if z (rx b) < 0 ∨ z (rx m) ≤ 0 then (2, z) else (0, upz z (rx r) (prz (z (rx a)) (z (rx b)) (z (rx m))))) := if_pos ⟨hr, ha, hb, hm, by omega, by omega⟩
  clear h65
  have hk1 : nbit (core (z (rx b))) ≤ 512 := by omega
  have hk2 : nbit (core (z (rx m))) ≤ 512 := by omega
  have h88 : z (rx b) < 0 ∨ z (rx m) ≤ 0 → ∀ lv, lv = [.ref Y] → RW (MV o Y (s_powerRest z r a b m) t p) y_M_powerRest (xbk y_M_powerRest 88) lv [.ref Y] o3 := by
    intro hc lv hlv
    subst hlv
    refine RW.ps 1 rfl ?_
    refine RW.go ?_
    exact h93 2 2 o3 h3 rfl (by decide) (by decide) (by rw [hsp, if_pos hc])
  refine RW.weak (lv0 := [.ref Y, .int r, .int a, .int b, .int m, xj, xj]) ⟨Or.inr rfl, Or.inr rfl, Or.inr rfl, Or.inr rfl, Or.inr rfl, Or.inl rfl, Or.inl rfl, trivial⟩ ?_
  refine RW.ps 1 rfl ?_
  refine RW.gf h3.y h3.f2 ?_
  refine RW.ps 1 rfl ?_
  refine RW.ia h3.k2 hb.ix hb.lt ?_
  rw [h3.sv hb]
  refine RW.ifc (fun k4 => ?_) (fun k4 => ?_)
  · rw [xi_lt, sign_i, i0] at k4
    refine RW.weak (lv0 := [.ref Y]) ⟨Or.inr rfl, trivial⟩ ?_
    exact h88 (Or.inl (Int.sign_neg_iff.mp k4)) _ rfl
  rw [xi_lt, sign_i, i0] at k4
  have hy0 : 0 ≤ z (rx b) := Int.not_lt.mp (fun q => k4 (Int.sign_neg_iff.mpr q))
  refine RW.ps 1 rfl ?_
  refine RW.gf h3.y h3.f2 ?_
  refine RW.ps 1 rfl ?_
  refine RW.ia h3.k2 hm.ix hm.lt ?_
  rw [h3.sv hm]
  refine RW.ifc (fun k5 => ?_) (fun k5 => ?_)
  rotate_left
  · rw [xi_gt, sign_i, i0] at k5
    refine RW.weak (lv0 := [.ref Y]) ⟨Or.inr rfl, trivial⟩ ?_
    exact h88 (Or.inr (Int.not_lt.mp (fun q => k5 (by rw [Int.sign_eq_one_of_pos q]; decide)))) _ rfl
  rw [xi_gt, sign_i, i0] at k5
  have hw0 : 0 < z (rx m) := Int.sign_pos_iff.mp k5
  rw [if_neg (by omega)] at hsp
  rw [hsp]
  clear h88 h93 hsp
  refine RW.ps 1 rfl ?_
  refine RW.pf h3.y rfl rfl ?_
  have h4 : MS o (xpf o3 Y 0 (.int 0)) Y z t p 0 := h3.code 0
  refine RW.ps 1 rfl ?_
  refine RW.gf h4.y h4.cd ?_
  refine RW.ifc (fun _ => ?_) (fun k => absurd (xi_le.mpr (by decide)) k)
  generalize xpf o3 Y 0 (.int 0) = o4 at h4 ⊢
  refine RW.weak (lv0 := [.ref Y, .int r, .int a, .int b, .int m, xj, xj]) ⟨Or.inr rfl, Or.inr rfl, Or.inr rfl, Or.inr rfl, Or.inr rfl, Or.inl rfl, Or.inl rfl, trivial⟩ ?_
  refine RW.sk [] rfl ?_
  refine RW.ps 3 rfl ?_
  refine RW.gf h4.y h4.f3 ?_
  refine RW.cv rfl rfl (xrc_v rfl rfl h4.y) rfl rfl (c_mload h4 ha 3 (by decide)) ?_
  intro o5 ⟨h5, a5, f5⟩
  refine RW.ps 3 rfl ?_
  refine RW.gf h5.y h5.f5 ?_
  refine RW.cv rfl rfl (xrc_v rfl rfl h5.y) rfl rfl (c_mload h5 hb 5 (by decide)) ?_
  intro o6 ⟨h6, b6, f6⟩
  have a6 := a5.fr1 f6 (by omega)
  refine RW.weak (lv0 := [.ref Y, .int r, .int a, .int b, .int m, xj, xj]) ⟨Or.inr rfl, Or.inr rfl, Or.inr rfl, Or.inr rfl, Or.inr rfl, Or.inl rfl, Or.inl rfl, trivial⟩ ?_
  refine RW.sk [] rfl ?_
  refine RW.ps 3 rfl ?_
  refine RW.gf h6.y h6.f6 ?_
  refine RW.cv rfl rfl (xrc_v rfl rfl h6.y) rfl rfl (c_mload h6 hm 6 (by decide)) ?_
  intro o7 ⟨h7, m7, f7⟩
  have a7 := a6.fr1 f7 (by omega)
  have b7 := b6.fr1 f7 (by omega)
  have na := h7.n ha
  have nb := h7.n hb
  have nm := h7.n hm
  have tm := h7.top hm
  clear f5 f6 f7 a5 a6 b6 h4 h5 h6 h2 h3 m2 m3 f2 f3
  have sva := h7.sv ha
  generalize hx : z (rx a) = x at *
  generalize hyy : z (rx b) = y at *
  generalize hww : z (rx m) = w at *
  have hwn : w.natAbs < 2 ^ 512 := by
    have h1 : core w = w.natAbs := by unfold core; rw [neg_f (by omega), if_neg Bool.false_ne_true]
    rw [← h1]; exact nbit_le.mp hk2
  have hw1 : 0 < w.natAbs := by omega
  have nw : n16 w.natAbs ≤ 32 := n16_le.mpr (by rw [b16]; exact hwn)
  have small : ∀ u, u < w.natAbs → n16 u ≤ 32 := fun u hu => Nat.le_trans (n16_mono (Nat.le_of_lt hu)) nw
  refine RW.weak (lv0 := [.ref Y, .int r, .int a, .int b, .int m, xj, xj]) ⟨Or.inr rfl, Or.inr rfl, Or.inr rfl, Or.inr rfl, Or.inr rfl, Or.inl rfl, Or.inl rfl, trivial⟩ ?_
  refine RW.sk [] rfl ?_
  refine RW.ps 2 rfl ?_
  refine RW.gf h7.y h7.f3 ?_
  refine RW.ps 1 rfl ?_
  refine RW.gf h7.y h7.f6 ?_
  refine RW.cv rfl rfl (xrc_v rfl rfl h7.y) rfl rfl (c_divideRows h7.2.1 a7 m7 (by omega) (by omega) hw1 (by omega) (by omega)) ?_
  intro o8 ⟨f8, q8, r8⟩
  have h8 := h7.scr f8 (by omega) (by omega)
  have b8 := b7.fr1 f8 (by omega)
  have m8 := m7.fr1 f8 (by omega)
  have hxm := Nat.mod_lt x.natAbs hw1
  have nx := small _ hxm
  refine RW.ps 1 rfl ?_
  refine RW.gf h8.y h8.f10 ?_
  refine RW.ps 1 rfl ?_
  refine RW.gf h8.y h8.f3 ?_
  refine RW.cv rfl rfl rfl rfl rfl (c_copy r8 (by decide) h8.k3 (by omega) (by omega)) ?_
  intro o9 ⟨f9, a9⟩
  have h9 := h8.scr f9 (by omega) (by omega)
  have b9 := b8.fr1 f9 (by omega)
  have m9 := m8.fr1 f9 (by omega)
  have a9 : Mn o9 (Y + 3) 1200 (x.natAbs % w.natAbs) := a9
  clear f8 f9 q8 r8 h8 b8 m8 a7 b7 m7
  refine RW.weak (lv0 := [.ref Y, .int r, .int a, .int b, .int m, xj, xj]) ⟨Or.inr rfl, Or.inr rfl, Or.inr rfl, Or.inr rfl, Or.inr rfl, Or.inl rfl, Or.inl rfl, trivial⟩ ?_
  refine RW.sk [] rfl ?_
  -- the power
  have h206 : ∀ o1, MS o o1 Y z t p 0 → Mn o1 (Y + 3) 1200 (rst x w.natAbs) → Mn o1 (Y + 5) 1200 y.natAbs → Mn o1 (Y + 6) 1200 w.natAbs → RW (MV o Y (0, upz z (rx r) (prz x y w)) t p) y_M_powerRest (xbk y_M_powerRest 206) [.ref Y, .int r, .int a, .int b, .int m, xj, xj] [] o1 := by
    intro o1 h1 a1 b1 m1
    have nr := small _ (rst_lt (a := x) hw1)
    generalize hR : rst x w.natAbs = R at *
    have hyb : nbit y.natAbs ≤ 8192 := top_bits.mpr (by rw [← hyy]; exact h1.top hb)
    -- one product, and its rest
    have h340 : ∀ T o2, n16 T ≤ 32 → T % w.natAbs = R ^ y.natAbs % w.natAbs → MS o o2 Y z t p 0 → Mn o2 (Y + 4) 1200 T → Mn o2 (Y + 6) 1200 w.natAbs → ∀ l5 l6, RW (MV o Y (0, upz z (rx r) (prz x y w)) t p) y_M_powerRest (xbk y_M_powerRest 340) [.ref Y, .int r, .int a, .int b, .int m, l5, l6] [] o2 := by
      intro T o2 nT hT h2 t2 m2 l5 l6
      refine RW.weak (lv0 := [.ref Y, .int r]) ⟨Or.inr rfl, Or.inr rfl, trivial⟩ ?_
      refine RW.sk [] rfl ?_
      refine RW.ps 2 rfl ?_
      refine RW.gf h2.y h2.f4 ?_
      refine RW.ps 1 rfl ?_
      refine RW.gf h2.y h2.f6 ?_
      refine RW.cv rfl rfl (xrc_v rfl rfl h2.y) rfl rfl (c_divideRows h2.2.1 t2 m2 (by omega) (by omega) hw1 (by omega) (by omega)) ?_
      intro o3 ⟨f3, q3, r3⟩
      have h3 := h2.scr f3 (by omega) (by omega)
      have hp : prz x y w = ((T % w.natAbs : Nat) : Int) := by unfold prz; rw [hR, hT]
      have r3 : Mn o3 (Y + 10) 1200 (prz x y w).natAbs := by rw [hp, Int.natAbs_natCast]; exact r3
      refine RW.ps 3 rfl ?_
      refine RW.gf h3.y h3.f10 ?_
      refine RW.ps 1 rfl ?_
      refine RW.cv rfl rfl (xrc_v rfl rfl h3.y) rfl rfl (c_keep h3 hr.ix hr.lt r3 (by decide) (by omega) (by omega) (by rw [hp, Int.natAbs_natCast]; exact Nat.lt_trans (Nat.mod_lt _ hw1) (by rw [← hww]; exact h1.top hm)) (fun hne => by rw [hp] at hne ⊢; rw [Int.sign_eq_one_of_pos (by generalize T % w.natAbs = g at *; omega)]; rfl)) ?_
      intro o4 h4
      exact RW.re rfl rfl (h4.mv rfl)
    have loop : ∀ (k : Nat) T o2 (kw : Int32), kw.toInt = (k : Int) - 1 → k ≤ nbit y.natAbs → n16 T ≤ 32 → T % w.natAbs = R ^ (y.natAbs / 2 ^ k) % w.natAbs → MS o o2 Y z t p 0 → Mn o2 (Y + 3) 1200 R → Mn o2 (Y + 4) 1200 T → Mn o2 (Y + 5) 1200 y.natAbs → Mn o2 (Y + 6) 1200 w.natAbs → RW (MV o Y (0, upz z (rx r) (prz x y w)) t p) y_M_powerRest (xbk y_M_powerRest 225) [.ref Y, .int r, .int a, .int b, .int m, xj, .int kw] [] o2 := by
      intro k
      induction k with
      | zero =>
        intro T o2 kw hkw hk nT hT h2 a2 t2 b2 m2
        rw [Nat.pow_zero, Nat.div_one] at hT
        refine RW.ps 1 rfl ?_
        refine RW.ifc (fun _ => h340 T o2 nT hT h2 t2 m2 _ _) (fun k => ?_)
        rw [xi_lt, hkw, i0] at k; omega
      | succ k ih =>
        intro T o2 kw hkw hk nT hT h2 a2 t2 b2 m2
        have hkk : kw.toInt = (k : Int) := by omega
        have hdd : y.natAbs / 2 ^ k = 2 * (y.natAbs / 2 ^ (k + 1)) + y.natAbs / 2 ^ k % 2 := by
          rw [Nat.pow_succ, ← Nat.div_div_eq_div_mul]; omega
        refine RW.ps 1 rfl ?_
        refine RW.ifc (fun k => ?_) (fun _ => ?_)
        · rw [xi_lt, hkk, i0] at k; omega
        refine RW.ps 2 rfl ?_
        refine RW.gf h2.y h2.f4 ?_
        refine RW.ps 1 rfl ?_
        refine RW.gf h2.y h2.f4 ?_
        refine RW.cv rfl rfl (xrc_v rfl rfl h2.y) rfl rfl (c_mmul h2.2.1 t2 t2 (by decide) (by decide) (by omega) (by omega) (by omega)) ?_
        intro o3 ⟨f3, p3⟩
        have h3 := h2.scr f3 (by omega) (by omega)
        have a3 := a2.fr1 f3 (by omega)
        have b3 := b2.fr1 f3 (by omega)
        have m3 := m2.fr1 f3 (by omega)
        have nTT : n16 (T * T) ≤ 64 := by
          rw [n16_le]
          have h1 : T < 65536 ^ 32 := n16_le.mp nT
          have h2 := Nat.mul_lt_mul'' h1 h1
          rw [← Nat.pow_add] at h2
          exact h2
        refine RW.weak (lv0 := [.ref Y, .int r, .int a, .int b, .int m, xj, .int kw]) ⟨Or.inr rfl, Or.inr rfl, Or.inr rfl, Or.inr rfl, Or.inr rfl, Or.inl rfl, Or.inr rfl, trivial⟩ ?_
        refine RW.sk [] rfl ?_
        refine RW.ps 1 rfl ?_
        refine RW.gf h3.y h3.f8 ?_
        refine RW.ps 1 rfl ?_
        refine RW.gf h3.y h3.f7 ?_
        refine RW.cv rfl rfl rfl rfl rfl (c_copy p3 (by decide) h3.k7 (by omega) (by omega)) ?_
        intro o4 ⟨f4, p4⟩
        have h4 := h3.scr f4 (by omega) (by omega)
        have a4 := a3.fr1 f4 (by omega)
        have b4 := b3.fr1 f4 (by omega)
        have m4 := m3.fr1 f4 (by omega)
        have p4 : Mn o4 (Y + 7) 1200 (T * T) := p4
        refine RW.ps 2 rfl ?_
        refine RW.gf h4.y h4.f7 ?_
        refine RW.ps 1 rfl ?_
        refine RW.gf h4.y h4.f6 ?_
        refine RW.cv rfl rfl (xrc_v rfl rfl h4.y) rfl rfl (c_divideRows h4.2.1 p4 m4 (by omega) (by omega) hw1 (by omega) (by omega)) ?_
        intro o5 ⟨f5, q5, r5⟩
        have h5 := h4.scr f5 (by omega) (by omega)
        have a5 := a4.fr1 f5 (by omega)
        have b5 := b4.fr1 f5 (by omega)
        have m5 := m4.fr1 f5 (by omega)
        have n5 := small _ (Nat.mod_lt (T * T) hw1)
        refine RW.weak (lv0 := [.ref Y, .int r, .int a, .int b, .int m, xj, .int kw]) ⟨Or.inr rfl, Or.inr rfl, Or.inr rfl, Or.inr rfl, Or.inr rfl, Or.inl rfl, Or.inr rfl, trivial⟩ ?_
        refine RW.sk [] rfl ?_
        refine RW.ps 1 rfl ?_
        refine RW.gf h5.y h5.f10 ?_
        refine RW.ps 1 rfl ?_
        refine RW.gf h5.y h5.f4 ?_
        refine RW.cv rfl rfl rfl rfl rfl (c_copy r5 (by decide) h5.k4 (by omega) (by omega)) ?_
        intro o6 ⟨f6, t6⟩
        have h6 := h5.scr f6 (by omega) (by omega)
        have a6 := a5.fr1 f6 (by omega)
        have b6 := b5.fr1 f6 (by omega)
        have m6 := m5.fr1 f6 (by omega)
        have t6 : Mn o6 (Y + 4) 1200 (T * T % w.natAbs) := t6
        clear f3 f4 f5 f6 h3 h4 h5 a3 a4 a5 b3 b4 b5 m3 m4 m5 p3 p4 q5 r5 h2 a2 t2 b2 m2
        have hTT : T * T % w.natAbs = R ^ (2 * (y.natAbs / 2 ^ (k + 1))) % w.natAbs := by
          rw [Nat.two_mul, Nat.pow_add, Nat.mul_mod, hT, ← Nat.mul_mod]
        refine RW.weak (lv0 := [.ref Y, .int r, .int a, .int b, .int m, xj, .int kw]) ⟨Or.inr rfl, Or.inr rfl, Or.inr rfl, Or.inr rfl, Or.inr rfl, Or.inl rfl, Or.inr rfl, trivial⟩ ?_
        refine RW.sk [] rfl ?_
        refine RW.ps 1 rfl ?_
        refine RW.gf h6.y h6.f5 ?_
        refine RW.ps 1 rfl ?_
        refine RW.cp rfl rfl rfl rfl rfl (c_bitOf16 b6 (by decide) hkk) ?_
        by_cases hbit : y.natAbs / 2 ^ k % 2 = 1
        · rw [decide_eq_true hbit]
          rw [hbit] at hdd
          refine RW.ifc (fun k => absurd (sg_bool.mp k) (by decide)) (fun _ => ?_)
          refine RW.ps 2 rfl ?_
          refine RW.gf h6.y h6.f4 ?_
          refine RW.ps 1 rfl ?_
          refine RW.gf h6.y h6.f3 ?_
          refine RW.cv rfl rfl (xrc_v rfl rfl h6.y) rfl rfl (c_mmul h6.2.1 t6 a6 (by decide) (by decide) (by omega) (by omega) (by omega)) ?_
          intro o7 ⟨f7, p7⟩
          have h7 := h6.scr f7 (by omega) (by omega)
          have a7 := a6.fr1 f7 (by omega)
          have b7 := b6.fr1 f7 (by omega)
          have m7 := m6.fr1 f7 (by omega)
          have nTR : n16 (T * T % w.natAbs * R) ≤ 64 := by
            rw [n16_le]
            have h1 : T * T % w.natAbs < 65536 ^ 32 := n16_le.mp n5
            have h2 : R < 65536 ^ 32 := n16_le.mp nr
            have h3 := Nat.mul_lt_mul'' h1 h2
            rw [← Nat.pow_add] at h3
            exact h3
          refine RW.weak (lv0 := [.ref Y, .int r, .int a, .int b, .int m, xj, .int kw]) ⟨Or.inr rfl, Or.inr rfl, Or.inr rfl, Or.inr rfl, Or.inr rfl, Or.inl rfl, Or.inr rfl, trivial⟩ ?_
          refine RW.sk [] rfl ?_
          refine RW.ps 1 rfl ?_
          refine RW.gf h7.y h7.f8 ?_
          refine RW.ps 1 rfl ?_
          refine RW.gf h7.y h7.f7 ?_
          refine RW.cv rfl rfl rfl rfl rfl (c_copy p7 (by decide) h7.k7 (by omega) (by omega)) ?_
          intro o8 ⟨f8, p8⟩
          have h8 := h7.scr f8 (by omega) (by omega)
          have a8 := a7.fr1 f8 (by omega)
          have b8 := b7.fr1 f8 (by omega)
          have m8 := m7.fr1 f8 (by omega)
          have p8 : Mn o8 (Y + 7) 1200 (T * T % w.natAbs * R) := p8
          refine RW.ps 2 rfl ?_
          refine RW.gf h8.y h8.f7 ?_
          refine RW.ps 1 rfl ?_
          refine RW.gf h8.y h8.f6 ?_
          refine RW.cv rfl rfl (xrc_v rfl rfl h8.y) rfl rfl (c_divideRows h8.2.1 p8 m8 (by omega) (by omega) hw1 (by omega) (by omega)) ?_
          intro o9 ⟨f9, q9, r9⟩
          have h9 := h8.scr f9 (by omega) (by omega)
          have a9 := a8.fr1 f9 (by omega)
          have b9 := b8.fr1 f9 (by omega)
          have m9 := m8.fr1 f9 (by omega)
          have n9 := small _ (Nat.mod_lt (T * T % w.natAbs * R) hw1)
          refine RW.weak (lv0 := [.ref Y, .int r, .int a, .int b, .int m, xj, .int kw]) ⟨Or.inr rfl, Or.inr rfl, Or.inr rfl, Or.inr rfl, Or.inr rfl, Or.inl rfl, Or.inr rfl, trivial⟩ ?_
          refine RW.sk [] rfl ?_
          refine RW.ps 1 rfl ?_
          refine RW.gf h9.y h9.f10 ?_
          refine RW.ps 1 rfl ?_
          refine RW.gf h9.y h9.f4 ?_
          refine RW.cv rfl rfl rfl rfl rfl (c_copy r9 (by decide) h9.k4 (by omega) (by omega)) ?_
          intro o10 ⟨f10, t10⟩
          refine RW.ps 1 rfl ?_
          refine RW.go ?_
          refine RW.weak (lv0 := [.ref Y, .int r, .int a, .int b, .int m, xj, .int (kw + (-1))]) ⟨Or.inr rfl, Or.inr rfl, Or.inr rfl, Or.inr rfl, Or.inr rfl, Or.inl rfl, Or.inr rfl, trivial⟩ ?_
          refine RW.sk [] rfl ?_
          refine ih _ o10 (kw + (-1)) (by rw [← Int32.sub_eq_add_neg]; exact i_subnat hkk (by omega)) (by omega) n9 ?_ (h9.scr f10 (by omega) (by omega)) (a9.fr1 f10 (by omega)) t10 (b9.fr1 f10 (by omega)) (m9.fr1 f10 (by omega))
          rw [Nat.mod_mod, hdd, Nat.pow_succ, hTT, Nat.mod_mul_mod]
        · rw [decide_eq_false hbit]
          have hbit0 : y.natAbs / 2 ^ k % 2 = 0 := by omega
          rw [hbit0, Nat.add_zero] at hdd
          refine RW.ifc (fun _ => ?_) (fun k => absurd (sg_bool.mpr rfl) k)
          refine RW.ps 1 rfl ?_
          refine RW.go ?_
          refine RW.weak (lv0 := [.ref Y, .int r, .int a, .int b, .int m, xj, .int (kw + (-1))]) ⟨Or.inr rfl, Or.inr rfl, Or.inr rfl, Or.inr rfl, Or.inr rfl, Or.inl rfl, Or.inr rfl, trivial⟩ ?_
          refine RW.sk [] rfl ?_
          refine ih _ o6 (kw + (-1)) (by rw [← Int32.sub_eq_add_neg]; exact i_subnat hkk (by omega)) (by omega) n5 ?_ h6 a6 t6 b6 m6
          rw [Nat.mod_mod, hTT, hdd]
    refine RW.ps 1 rfl ?_
    refine RW.gf h1.y h1.f4 ?_
    refine RW.ps 1 rfl ?_
    refine RW.cv rfl rfl rfl rfl rfl (c_small (v := 1) h1.k4 (by decide) rfl (by decide)) ?_
    intro o2 ⟨f2, t2⟩
    have h2 := h1.scr f2 (by omega) (by omega)
    have b2 := b1.fr1 f2 (by omega)
    refine RW.ps 1 rfl ?_
    refine RW.gf h2.y h2.f5 ?_
    refine RW.cp rfl rfl rfl rfl rfl (c_bitsOf16 b2 (by decide)) ?_
    refine RW.ps 3 rfl ?_
    refine RW.weak (lv0 := [.ref Y, .int r, .int a, .int b, .int m, xj, .int (Int32.ofInt (nbit y.natAbs : Nat) - 1)]) ⟨Or.inr rfl, Or.inr rfl, Or.inr rfl, Or.inr rfl, Or.inr rfl, Or.inl rfl, Or.inr rfl, trivial⟩ ?_
    refine RW.sk [] rfl ?_
    refine loop (nbit y.natAbs) 1 o2 _ (i_subnat (iu (by omega)) (by omega)) (Nat.le_refl _) (by decide +kernel) ?_ h2 (a1.fr1 f2 (by omega)) t2 b2 (m1.fr1 f2 (by omega))
    rw [Nat.div_eq_of_lt (nbit_self _), Nat.pow_zero]
  refine RW.ps 1 rfl ?_
  refine RW.gf h9.y h9.f2 ?_
  refine RW.ps 1 rfl ?_
  refine RW.ia h9.k2 ha.ix ha.lt ?_
  rw [h9.sv ha, hx]
  refine RW.ifc (fun k6 => ?_) (fun k6 => ?_)
  · have k6 := sign_lt.mp k6
    refine h206 o9 h9 ?_ b9 m9
    rw [rst_pos k6]; exact a9
  have k6 : x < 0 := Int.not_le.mp (fun q => k6 (sign_lt.mpr q))
  refine RW.ps 1 rfl ?_
  refine RW.gf h9.y h9.f3 ?_
  refine RW.ps 1 rfl ?_
  refine RW.ia a9.1 i0n (by omega) ?_
  rw [a9.2.2.2.1]
  refine RW.ifc (fun k7 => ?_) (fun k7 => ?_)
  · rw [xi_le, iu (by omega), i0] at k7
    have hz0 : x.natAbs % w.natAbs = 0 := n16_zero.mp (by omega)
    refine h206 o9 h9 ?_ b9 m9
    rw [rst_neg k6 hw1, if_pos hz0, ← hz0]; exact a9
  rw [xi_le, iu (by omega), i0] at k7
  have hz0 : ¬ x.natAbs % w.natAbs = 0 := fun q => k7 (by rw [n16_zero.mpr q]; decide)
  refine RW.ps 1 rfl ?_
  refine RW.gf h9.y h9.f6 ?_
  refine RW.ps 1 rfl ?_
  refine RW.gf h9.y h9.f7 ?_
  refine RW.cv rfl rfl rfl rfl rfl (c_copy m9 (by decide) h9.k7 (by omega) (by omega)) ?_
  intro o10 ⟨f10, v10⟩
  have h10 := h9.scr f10 (by omega) (by omega)
  have a10 := a9.fr1 f10 (by omega)
  have b10 := b9.fr1 f10 (by omega)
  have m10 := m9.fr1 f10 (by omega)
  refine RW.weak (lv0 := [.ref Y, .int r, .int a, .int b, .int m, xj, xj]) ⟨Or.inr rfl, Or.inr rfl, Or.inr rfl, Or.inr rfl, Or.inr rfl, Or.inl rfl, Or.inl rfl, trivial⟩ ?_
  refine RW.sk [] rfl ?_
  refine RW.ps 1 rfl ?_
  refine RW.gf h10.y h10.f7 ?_
  refine RW.ps 1 rfl ?_
  refine RW.gf h10.y h10.f3 ?_
  refine RW.cv rfl rfl rfl rfl rfl (c_takeFrom v10 a10 (by decide) (by decide) (by omega) (by omega)) ?_
  intro o11 ⟨f11, v11⟩
  have h11 := h10.scr f11 (by omega) (by omega)
  have b11 := b10.fr1 f11 (by omega)
  have m11 := m10.fr1 f11 (by omega)
  have n11 := small (w.natAbs - x.natAbs % w.natAbs) (by omega)
  refine RW.ps 1 rfl ?_
  refine RW.gf h11.y h11.f7 ?_
  refine RW.ps 1 rfl ?_
  refine RW.gf h11.y h11.f3 ?_
  refine RW.cv rfl rfl rfl rfl rfl (c_copy v11 (by decide) h11.k3 (by omega) (by omega)) ?_
  intro o12 ⟨f12, v12⟩
  refine RW.weak (lv0 := [.ref Y, .int r, .int a, .int b, .int m, xj, xj]) ⟨Or.inr rfl, Or.inr rfl, Or.inr rfl, Or.inr rfl, Or.inr rfl, Or.inl rfl, Or.inl rfl, trivial⟩ ?_
  refine RW.sk [] rfl ?_
  refine h206 o12 (h11.scr f12 (by omega) (by omega)) ?_ (b11.fr1 f12 (by omega)) (m11.fr1 f12 (by omega))
  rw [rst_neg k6 hw1, if_neg hz0]; exact v12
end C9
