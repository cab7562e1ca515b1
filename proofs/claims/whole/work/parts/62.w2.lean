/-! WHOLENUMBERS: divide. -/
section W2
variable {o0 o : xO} {X : Nat} {z : Nat → Int} {t p : List Int32}
theorem sg_bool {b : Bool} : xcd .eq (sg b) 0 ↔ b = false := by rw [xi_eq]; cases b <;> decide
theorem sg_boolne {b : Bool} : xcd .ne (sg b) 0 ↔ b = true := by rw [xi_ne]; cases b <;> decide
theorem ZD.div {o o' : xO} {d : Nat} {x y v : Nat} (h : ZD o d) (hf : Fr [(d + 1, 6)] o o') (h1 : Rn o' (d + 1) x) (h3 : Rn o' (d + 3) y) (h5 : Rn o' (d + 5) v) : ZD o' d := ⟨h.1.fr hf (Out.one (by omega)), ⟨_, h1⟩, ⟨_, h3⟩, ⟨_, h5⟩⟩
theorem c_wdivide (h : WI o X z t p) {r a b m : Int32} : Ct y_W_divide [.ref X, .int r, .int a, .int b, .int m] o (WV o X (s_divide z r a b m) 2 t p) := by
  have h := WS.start h
  refine RW.ps 2 rfl ?_
  by_cases hr : ¬ okr r
  · exact RW.cx rfl rfl (xrc_v rfl rfl h.x.1) rfl rfl (c_register_no h.x hr) rfl (h.v1 (if_neg (fun k => hr k.1)))
  have hr := Classical.not_not.mp hr
  refine RW.cp rfl rfl (xrc_v rfl rfl h.x.1) rfl rfl (c_register h.x hr) ?_
  refine RW.ps 3 rfl ?_
  by_cases ha : ¬ okr a
  · exact RW.cx rfl rfl (xrc_v rfl rfl h.x.1) rfl rfl (c_register_no h.x ha) rfl (h.v1 (if_neg (fun k => ha k.2.1)))
  have ha := Classical.not_not.mp ha
  refine RW.cp rfl rfl (xrc_v rfl rfl h.x.1) rfl rfl (c_register h.x ha) ?_
  refine RW.ps 3 rfl ?_
  by_cases hb : ¬ okr b
  · exact RW.cx rfl rfl (xrc_v rfl rfl h.x.1) rfl rfl (c_register_no h.x hb) rfl (h.v1 (if_neg (fun k => hb k.2.2.1)))
  have hb := Classical.not_not.mp hb
  refine RW.cp rfl rfl (xrc_v rfl rfl h.x.1) rfl rfl (c_register h.x hb) ?_
  refine RW.ps 4 rfl ?_
  by_cases hm : ¬ ((0 : Int32).toInt ≤ m.toInt ∧ m.toInt ≤ (3 : Int32).toInt)
  · exact RW.cx rfl rfl rfl rfl rfl (c_checkRange_no hm) rfl (h.v1 (if_neg (fun k => hm k.2.2.2)))
  have hm := Classical.not_not.mp hm
  refine RW.cv rfl rfl rfl rfl rfl (c_checkRange hm) ?_
  intro o1 ho1
  subst ho1
  rw [show (0 : Int32).toInt = 0 from rfl, show (3 : Int32).toInt = 3 from rfl] at hm
  have hsp : s_divide z r a b m = (if z (rx b) = 0 then (2, z) else (0, upz z (rx r) (dv m (z (rx a)) (z (rx b))))) := if_pos ⟨hr, ha, hb, hm⟩
  rw [hsp]
  clear hsp
  refine RW.weak (lv0 := [.ref X, xj, xj, xj, .int m, .ref (X + 60 + 3 * rx r), .ref (X + 60 + 3 * rx a), .ref (X + 60 + 3 * rx b), xj, xj]) ⟨Or.inr rfl, Or.inl rfl, Or.inl rfl, Or.inl rfl, Or.inr rfl, Or.inr rfl, Or.inr rfl, Or.inr rfl, Or.inl rfl, Or.inl rfl, trivial⟩ ?_
  refine RW.sk [] rfl ?_
  refine RW.ps 1 rfl ?_
  refine RW.cp rfl rfl (xrc_v rfl rfl (h.w hb).1) rfl rfl (c_wIsZero (h.w hb)) ?_
  by_cases hz : z (rx b) = 0
  · rw [if_pos hz, if_pos hz]
    refine RW.ifc (fun k => absurd (xi_eq.mp k) (by decide)) (fun _ => ?_)
    exact RW.th rfl (h.v2 rfl)
  rw [if_neg hz, if_neg hz]
  refine RW.ifc (fun _ => ?_) (fun k => absurd (xi_eq.mpr rfl) k)
  have wa := h.w ha
  have wb := h.w hb
  have wr := h.w hr
  have ta := h.top ha
  have tb := h.top hb
  have na := top_nl ta
  have nb := top_nl tb
  generalize hx : z (rx a) = x at *
  generalize hy : z (rx b) = y at *
  have hy0 : 0 < y.natAbs := by omega
  obtain ⟨⟨vq, d1⟩, ⟨vr, d3⟩, ⟨vs, d5⟩⟩ := h.2.2.2.2.2.1.2
  have hd := h.2.2.2.2.2.1.1
  refine RW.ps 1 rfl ?_
  refine RW.gf h.x.1 h.x.2.2.2.2.2.1 ?_
  refine RW.ps 1 rfl ?_
  refine RW.gf wa.1 wa.2.1 ?_
  refine RW.ps 1 rfl ?_
  refine RW.gf wb.1 wb.2.1 ?_
  refine RW.cv rfl rfl (xrc_v rfl rfl hd.1) rfl rfl (c_divide hd d1 d3 d5 wa.2.2.1 wb.2.2.1 hy0 (by omega) (by omega) (by omega) (by omega)) ?_
  intro o2 ⟨f2, q2, r2, vs2, s2⟩
  have h2 := h.zd f2 (by omega) (by omega) (h.2.2.2.2.2.1.div f2 q2 r2 s2)
  have wa := wa.fr1 f2 (by omega)
  have wb := wb.fr1 f2 (by omega)
  have wr := wr.fr1 f2 (by omega)
  have hd := hd.fr f2 (Out.one (by omega))
  clear h d1 d3 d5 f2
  have hdm := Nat.div_add_mod x.natAbs y.natAbs
  have hlt := Nat.mod_lt x.natAbs hy0
  have hq1 : x.natAbs / y.natAbs ≤ y.natAbs * (x.natAbs / y.natAbs) := by
    have := Nat.mul_le_mul_right (x.natAbs / y.natAbs) (show 1 ≤ y.natAbs by omega)
    omega
  have h211 : dnb m x y = false → ¬ (m.toInt = 0 ∨ m.toInt = 2) → RW (WV o1 X (0, upz z (rx r) (dv m x y)) 2 t p) y_W_divide (xbk y_W_divide 211) [.ref X, xj, xj, xj, .int m, .ref (X + 60 + 3 * rx r), .ref (X + 60 + 3 * rx a), .ref (X + 60 + 3 * rx b), xj, xj] [] o2 := by
    intro hdn hm2
    refine RW.ps 2 rfl ?_
    refine RW.gf h2.x.1 h2.x.2.2.2.2.2.1 ?_
    refine RW.gf hd.1 hd.2.2.1 ?_
    refine RW.ps 1 rfl ?_
    refine RW.gf wa.1 wa.2.2.2 ?_
    refine RW.cv rfl rfl (xrc_v rfl rfl wr.1) rfl rfl (c_becomeSigned wr r2) ?_
    intro o3 ⟨f3, w3⟩
    refine RW.re rfl rfl ((h2.reg hr.lt f3 w3 ?_).v0 ?_)
    · rw [mkz_abs]; omega
    · unfold dv; rw [if_neg hm2, if_neg (by rw [hdn]; decide)]
  have h163 : ∀ l8, ¬ (m.toInt = 0 ∨ m.toInt = 2) → RW (WV o1 X (0, upz z (rx r) (dv m x y)) 2 t p) y_W_divide (xbk y_W_divide 163) [.ref X, xj, xj, xj, .int m, .ref (X + 60 + 3 * rx r), .ref (X + 60 + 3 * rx a), .ref (X + 60 + 3 * rx b), l8, .int (sg (dnb m x y))] [] o2 := by
    intro l8 hm2
    refine RW.ps 1 rfl ?_
    refine RW.ifc (fun k => ?_) (fun k => ?_)
    · refine RW.weak (lv0 := [.ref X, xj, xj, xj, .int m, .ref (X + 60 + 3 * rx r), .ref (X + 60 + 3 * rx a), .ref (X + 60 + 3 * rx b), xj, xj]) ⟨Or.inr rfl, Or.inl rfl, Or.inl rfl, Or.inl rfl, Or.inr rfl, Or.inr rfl, Or.inr rfl, Or.inr rfl, Or.inl rfl, Or.inl rfl, trivial⟩ ?_
      refine RW.sk [] rfl ?_
      exact h211 (sg_bool.mp k) hm2
    have hdn : dnb m x y = true := by
      cases hc : dnb m x y with
      | true => rfl
      | false => exact absurd (sg_bool.mpr hc) k
    obtain ⟨vl, hl⟩ := h2.2.2.2.1
    refine RW.ps 1 rfl ?_
    refine RW.gf h2.x.1 h2.x.2.2.2.1 ?_
    refine RW.ps 1 rfl ?_
    refine RW.gf wb.1 wb.2.1 ?_
    refine RW.cv rfl rfl (xrc_v rfl rfl hl.1.1) rfl rfl (c_become hl wb.2.2.1) ?_
    intro o3 ho3
    have f3 : Fr [(X + 5, 2)] o2 o3 := by subst ho3; exact Fr.num
    have l3 : Rn o3 (X + 5) y.natAbs := by subst ho3; exact Rn.num hl wb.2.2.1.2.1
    clear ho3
    have h3 := h2.left f3 (by omega) (by omega) ⟨_, l3⟩
    have r3 := r2.fr1 f3 (by omega)
    have wb3 := wb.fr1 f3 (by omega)
    have wr3 := wr.fr1 f3 (by omega)
    have hd3 := hd.fr f3 (Out.one (by omega))
    refine RW.ps 1 rfl ?_
    refine RW.gf h3.x.1 h3.x.2.2.2.1 ?_
    refine RW.ps 1 rfl ?_
    refine RW.gf h3.x.1 h3.x.2.2.2.2.2.1 ?_
    refine RW.gf hd3.1 hd3.2.2.1 ?_
    refine RW.cv rfl rfl (xrc_v rfl rfl l3.1.1) rfl rfl (c_take l3 r3 (by omega) (by omega)) ?_
    intro o4 ho4
    have f4 : Fr [(X + 5, 2)] o3 o4 := by subst ho4; exact Fr.num
    have l4 : Rn o4 (X + 5) (y.natAbs - x.natAbs % y.natAbs) := by subst ho4; exact Rn.num l3 (Nat.lt_of_le_of_lt (Nat.sub_le _ _) wb.2.2.1.2.1)
    clear ho4
    have h4 := h3.left f4 (by omega) (by omega) ⟨_, l4⟩
    have wb4 := wb3.fr1 f4 (by omega)
    have wr4 := wr3.fr1 f4 (by omega)
    refine RW.ps 2 rfl ?_
    refine RW.gf h4.x.1 h4.x.2.2.2.1 ?_
    refine RW.ps 1 rfl ?_
    refine RW.gf wb4.1 wb4.2.2.2 ?_
    refine RW.cv rfl rfl (xrc_v rfl rfl wr4.1) rfl rfl (c_becomeSigned wr4 l4) ?_
    intro o5 ⟨f5, w5⟩
    refine RW.go ?_
    refine RW.re rfl rfl ((h4.reg hr.lt f5 w5 ?_).v0 ?_)
    · rw [mkz_abs]; omega
    · unfold dv; rw [if_neg hm2, if_pos hdn]
  have h125 : (m.toInt = 0 ∨ m.toInt = 2) → RW (WV o1 X (0, upz z (rx r) (dv m x y)) 2 t p) y_W_divide (xbk y_W_divide 125) [.ref X, xj, xj, xj, .int m, .ref (X + 60 + 3 * rx r), .ref (X + 60 + 3 * rx a), .ref (X + 60 + 3 * rx b), .int (sg (neg x != neg y)), .int (sg (dnb m x y))] [] o2 := by
    intro hm2
    have h143 : RW (WV o1 X (0, upz z (rx r) (dv m x y)) 2 t p) y_W_divide (xbk y_W_divide 143) [.ref X, xj, xj, xj, .int m, .ref (X + 60 + 3 * rx r), .ref (X + 60 + 3 * rx a), .ref (X + 60 + 3 * rx b), .int (sg (neg x != neg y)), xj] [.int (sg (dnb m x y)), .int 1, .ref (X + 9 + 1)] o2 := by
      have hZ : (((x.natAbs / y.natAbs + (if dnb m x y = true then 1 else 0) : Nat)) : Int) = ((x.natAbs / y.natAbs : Nat) : Int) * ((1 : Nat) : Int) + (sg (dnb m x y)).toInt := by
        rw [Int.natCast_one, Int.mul_one, Int.natCast_add]
        congr 1
        cases dnb m x y <;> rfl
      have hT : x.natAbs / y.natAbs + (if dnb m x y = true then 1 else 0) < TOP := by
        by_cases hc : dnb m x y = true
        · rw [if_pos hc]
          have : x.natAbs % y.natAbs ≠ 0 := by
            unfold dnb at hc
            rw [Bool.and_eq_true, decide_eq_true_eq] at hc
            exact hc.2
          omega
        · rw [if_neg hc]; omega
      have hqn := top_nl (show x.natAbs / y.natAbs < TOP by omega)
      refine RW.cv rfl rfl (xrc_v rfl rfl q2.1.1) rfl rfl (c_scale (f := 1) q2 rfl rfl hZ (Nat.lt_trans hT top_big) (by omega)) ?_
      intro o3 ho3
      have f3 : Fr [(X + 9 + 1, 2)] o2 o3 := by subst ho3; exact Fr.num
      have q3 : Rn o3 (X + 9 + 1) (x.natAbs / y.natAbs + (if dnb m x y = true then 1 else 0)) := by subst ho3; exact Rn.num q2 (Nat.lt_trans hT top_big)
      clear ho3
      have hd3 := hd.fr f3 (Out.one (by omega))
      have h3 := h2.zd f3 (by omega) (by omega) ⟨hd3, ⟨_, q3⟩, ⟨_, r2.fr1 f3 (by omega)⟩, ⟨_, s2.fr1 f3 (by omega)⟩⟩
      have wr3 := wr.fr1 f3 (by omega)
      refine RW.ps 2 rfl ?_
      refine RW.gf h3.x.1 h3.x.2.2.2.2.2.1 ?_
      refine RW.gf hd3.1 hd3.2.1 ?_
      refine RW.ps 1 rfl ?_
      refine RW.cv rfl rfl (xrc_v rfl rfl wr3.1) rfl rfl (c_becomeSigned wr3 q3) ?_
      intro o4 ⟨f4, w4⟩
      refine RW.go ?_
      refine RW.re rfl rfl ((h3.reg hr.lt f4 w4 ?_).v0 ?_)
      · rw [mkz_abs]; exact hT
      · unfold dv; rw [if_pos hm2]
    refine RW.ps 1 rfl ?_
    refine RW.gf h2.x.1 h2.x.2.2.2.2.2.1 ?_
    refine RW.gf hd.1 hd.2.1 ?_
    refine RW.ps 2 rfl ?_
    refine RW.ifc (fun k => ?_) (fun k => ?_)
    · rw [sg_bool] at k
      rw [k] at h143
      refine RW.ps 1 rfl ?_
      refine RW.weak (lv0 := [.ref X, xj, xj, xj, .int m, .ref (X + 60 + 3 * rx r), .ref (X + 60 + 3 * rx a), .ref (X + 60 + 3 * rx b), .int (sg (neg x != neg y)), xj]) ⟨Or.inr rfl, Or.inl rfl, Or.inl rfl, Or.inl rfl, Or.inr rfl, Or.inr rfl, Or.inr rfl, Or.inr rfl, Or.inr rfl, Or.inl rfl, trivial⟩ ?_
      refine RW.sk [.int (sg false), .int 1, .ref (X + 9 + 1)] rfl ?_
      exact h143
    · have hdn : dnb m x y = true := by
        cases hc : dnb m x y with
        | true => rfl
        | false => exact absurd (sg_bool.mpr hc) k
      rw [hdn] at h143
      refine RW.ps 1 rfl ?_
      refine RW.go ?_
      refine RW.weak (lv0 := [.ref X, xj, xj, xj, .int m, .ref (X + 60 + 3 * rx r), .ref (X + 60 + 3 * rx a), .ref (X + 60 + 3 * rx b), .int (sg (neg x != neg y)), xj]) ⟨Or.inr rfl, Or.inl rfl, Or.inl rfl, Or.inl rfl, Or.inr rfl, Or.inr rfl, Or.inr rfl, Or.inr rfl, Or.inr rfl, Or.inl rfl, trivial⟩ ?_
      refine RW.sk [.int (sg true), .int 1, .ref (X + 9 + 1)] rfl ?_
      exact h143
  have h112 : ∀ c : Bool, c = dnb m x y → RW (WV o1 X (0, upz z (rx r) (dv m x y)) 2 t p) y_W_divide (xbk y_W_divide 112) [.ref X, xj, xj, xj, .int m, .ref (X + 60 + 3 * rx r), .ref (X + 60 + 3 * rx a), .ref (X + 60 + 3 * rx b), .int (sg (neg x != neg y)), xj] [.int (sg c)] o2 := by
    intro c hc
    subst hc
    refine RW.ps 2 rfl ?_
    refine RW.ifc (fun k => ?_) (fun k => ?_)
    · rw [xi_eq, i0] at k
      exact h125 (Or.inl k)
    refine RW.ps 2 rfl ?_
    refine RW.icm (fun k2 => ?_) (fun k2 => ?_)
    · rw [xi_eq, i0] at k
      rw [xi_ne, show (2 : Int32).toInt = 2 from rfl] at k2
      exact h163 _ (fun z => z.elim k k2)
    · rw [xi_ne, show (2 : Int32).toInt = 2 from rfl] at k2
      exact h125 (Or.inr (Classical.not_not.mp k2))
  have h81 : ∀ c : Bool, c = (neg x != neg y) → RW (WV o1 X (0, upz z (rx r) (dv m x y)) 2 t p) y_W_divide (xbk y_W_divide 81) [.ref X, xj, xj, xj, .int m, .ref (X + 60 + 3 * rx r), .ref (X + 60 + 3 * rx a), .ref (X + 60 + 3 * rx b), xj, xj] [.int (sg c)] o2 := by
    intro c hc
    subst hc
    have h111 : dnb m x y = false → RW (WV o1 X (0, upz z (rx r) (dv m x y)) 2 t p) y_W_divide (xbk y_W_divide 111) [.ref X, xj, xj, xj, .int m, .ref (X + 60 + 3 * rx r), .ref (X + 60 + 3 * rx a), .ref (X + 60 + 3 * rx b), .int (sg (neg x != neg y)), xj] [] o2 := by
      intro hdn
      refine RW.ps 1 rfl ?_
      exact h112 false hdn.symm
    refine RW.ps 3 rfl ?_
    refine RW.icm (fun k => ?_) (fun k => ?_)
    · rw [xi_ge, show (2 : Int32).toInt = 2 from rfl] at k
      exact h111 (by unfold dnb; rw [decide_eq_false (by omega)]; rfl)
    rw [xi_ge, show (2 : Int32).toInt = 2 from rfl] at k
    refine RW.ps 1 rfl ?_
    refine RW.ifc (fun k2 => ?_) (fun k2 => ?_)
    · exact h111 (by unfold dnb; rw [sg_bool.mp k2]; simp)
    have k2 : (neg x != neg y) = true := by
      cases hc : (neg x != neg y) with
      | true => rfl
      | false => exact absurd (sg_bool.mpr hc) k2
    refine RW.ps 1 rfl ?_
    refine RW.gf h2.x.1 h2.x.2.2.2.2.2.1 ?_
    refine RW.gf hd.1 hd.2.2.1 ?_
    refine RW.cp rfl rfl (xrc_v rfl rfl r2.1.1) rfl rfl (c_isZero r2) ?_
    by_cases hr0 : x.natAbs % y.natAbs = 0
    · rw [if_pos hr0]
      refine RW.ifc (fun _ => ?_) (fun k3 => absurd (xi_ne.mpr (by decide)) k3)
      exact h111 (by unfold dnb; simp [hr0])
    · rw [if_neg hr0]
      refine RW.ifc (fun k3 => absurd rfl (xi_ne.mp k3)) (fun _ => ?_)
      refine RW.ps 1 rfl ?_
      refine RW.go ?_
      exact h112 true (by unfold dnb; rw [k2, decide_eq_true hr0, decide_eq_true (by omega)]; rfl)
  refine RW.weak (lv0 := [.ref X, xj, xj, xj, .int m, .ref (X + 60 + 3 * rx r), .ref (X + 60 + 3 * rx a), .ref (X + 60 + 3 * rx b), xj, xj]) ⟨Or.inr rfl, Or.inl rfl, Or.inl rfl, Or.inl rfl, Or.inr rfl, Or.inr rfl, Or.inr rfl, Or.inr rfl, Or.inl rfl, Or.inl rfl, trivial⟩ ?_
  refine RW.sk [] rfl ?_
  refine RW.ps 1 rfl ?_
  refine RW.gf wa.1 wa.2.2.2 ?_
  refine RW.ps 1 rfl ?_
  refine RW.gf wb.1 wb.2.2.2 ?_
  refine RW.icm (fun k => ?_) (fun k => ?_)
  · rw [xi_eq, sg_eq] at k
    refine RW.ps 1 rfl ?_
    exact h81 false (by rw [k]; simp)
  · rw [xi_eq, sg_eq] at k
    refine RW.ps 1 rfl ?_
    refine RW.go ?_
    exact h81 true (by simp [k])
end W2
