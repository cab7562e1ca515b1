/-! WHOLENUMBERS: register, checkRange, keepResult, set, move, reckon. -/
section W1
variable {o0 o : xO} {X : Nat} {z : Nat → Int} {t p : List Int32}
theorem c_register (h : ZX o X) {r : Int32} (hr : okr r) : Cp y_W_register [.ref X, .int r] o (.ref (X + 60 + 3 * rx r)) := by
  have hrx : r.toInt = (rx r : Int) := by unfold rx; omega
  obtain ⟨h0, h1, h2, h3, h4, h5, h6, h7, h8, h9, h10, h11, h12⟩ := h
  refine RW.ps 1 rfl ?_
  refine RW.ifc (fun k => ?_) (fun _ => ?_)
  · rw [xi_lt, i0] at k; omega
  refine RW.ps 2 rfl ?_
  refine RW.gf h0 h1 ?_
  refine RW.al5 h11 ?_
  refine RW.icm (fun _ => ?_) (fun k => ?_)
  · refine RW.ps 1 rfl ?_
    refine RW.gf h0 h1 ?_
    refine RW.ps 1 rfl ?_
    refine RW.aa h11 hrx (by omega) (h12 (rx r) (by omega)) ?_
    exact RW.re rfl rfl ⟨rfl, rfl⟩
  · rw [xi_lt, show (Int32.ofNat 16).toInt = 16 from rfl] at k; omega
theorem c_register_no (h : ZX o X) {r : Int32} (hr : ¬ okr r) : Ct y_W_register [.ref X, .int r] o (fun q o' => q = .inr 0 ∧ o' = xth o) := by
  have h13 : ∀ lv, RW (fun (q : xR) o' => q = .inr 0 ∧ o' = xth o) y_W_register (xbk y_W_register 13) lv [] o := by
    intro lv
    exact RW.th rfl ⟨rfl, rfl⟩
  obtain ⟨h0, h1, h2, h3, h4, h5, h6, h7, h8, h9, h10, h11, h12⟩ := h
  refine RW.ps 1 rfl ?_
  refine RW.ifc (fun k => h13 _) (fun k => ?_)
  refine RW.ps 2 rfl ?_
  refine RW.gf h0 h1 ?_
  refine RW.al5 h11 ?_
  refine RW.icm (fun k2 => ?_) (fun _ => h13 _)
  rw [xi_lt, i0] at k
  rw [xi_lt, show (Int32.ofNat 16).toInt = 16 from rfl] at k2
  omega
theorem c_checkRange {v l m : Int32} (h : l.toInt ≤ v.toInt ∧ v.toInt ≤ m.toInt) : Cv y_W_checkRange [.int v, .int l, .int m] o (fun o' => o' = o) := by
  refine RW.ps 2 rfl ?_
  refine RW.icm (fun k => ?_) (fun _ => ?_)
  · rw [xi_lt] at k; omega
  refine RW.ps 2 rfl ?_
  refine RW.icm (fun _ => ?_) (fun k => ?_)
  · exact RW.re rfl rfl ⟨rfl, rfl⟩
  · rw [xi_le] at k; omega
theorem c_checkRange_no {v l m : Int32} (h : ¬ (l.toInt ≤ v.toInt ∧ v.toInt ≤ m.toInt)) : Ct y_W_checkRange [.int v, .int l, .int m] o (fun q o' => q = .inr 0 ∧ o' = xth o) := by
  have h10 : ∀ lv, RW (fun (q : xR) o' => q = .inr 0 ∧ o' = xth o) y_W_checkRange (xbk y_W_checkRange 10) lv [] o := by
    intro lv
    exact RW.th rfl ⟨rfl, rfl⟩
  refine RW.ps 2 rfl ?_
  refine RW.icm (fun k => h10 _) (fun k => ?_)
  refine RW.ps 2 rfl ?_
  refine RW.icm (fun k2 => ?_) (fun k2 => h10 _)
  rw [xi_lt] at k
  rw [xi_le] at k2
  omega
theorem c_keepResult (h : WS o0 o X z t p) {v : Int} (hv : Wn o (X + 2) v) {r : Int32} (hr : okr r) : Ct y_W_keepResult [.ref X, .ref (X + 60 + 3 * rx r)] o (WV o0 X (keepV z r v) 1 t p) := by
  have hx := h.x
  have hb := nbit_big hv.2.2.1.2.1
  refine RW.ps 1 rfl ?_
  refine RW.gf hx.1 hx.2.2.1 ?_
  refine RW.gf hv.1 hv.2.1 ?_
  refine RW.cp rfl rfl (xrc_v rfl rfl hv.2.2.1.1.1) rfl rfl (c_bits hv.2.2.1) ?_
  refine RW.ps 1 rfl ?_
  refine RW.icm (fun k => ?_) (fun k => ?_)
  · rw [xi_le, iu (by omega), show (8192 : Int32).toInt = 8192 from rfl] at k
    have hT : v.natAbs < TOP := top_bits.mp (by omega)
    refine RW.ps 2 rfl ?_
    refine RW.gf hx.1 hx.2.2.1 ?_
    refine RW.cv rfl rfl (xrc_v rfl rfl (h.w hr).1) rfl rfl (c_wBecome (h.w hr) hv) ?_
    intro o1 ⟨f1, w1⟩
    exact RW.re rfl rfl ((h.reg hr.lt f1 w1 hT).v0 (if_pos hT))
  · rw [xi_le, iu (by omega), show (8192 : Int32).toInt = 8192 from rfl] at k
    have hT : ¬ v.natAbs < TOP := fun z => by have := top_bits.mpr z; omega
    exact RW.th rfl (h.v2 (if_neg hT))
theorem c_set (h : WI o X z t p) {r : Int32} {v : Int64} : Ct y_W_set [.ref X, .int r, .long v] o (WV o X (s_set z r v) 9 t p) := by
  have h := WS.start h
  refine RW.ps 2 rfl ?_
  by_cases hr : ¬ okr r
  · exact RW.cx rfl rfl (xrc_v rfl rfl h.x.1) rfl rfl (c_register_no h.x hr) rfl (h.v1 (if_neg hr))
  have hr := Classical.not_not.mp hr
  refine RW.cp rfl rfl (xrc_v rfl rfl h.x.1) rfl rfl (c_register h.x hr) ?_
  refine RW.ps 1 rfl ?_
  refine RW.cv rfl rfl (xrc_v rfl rfl (h.w hr).1) rfl rfl (c_wBecomeLong (h.w hr)) ?_
  intro o1 ⟨f1, w1⟩
  refine RW.re rfl rfl ((h.reg hr.lt f1 w1 ?_).v0 (if_pos hr))
  have h1 := v.le_toInt
  have h2 := v.toInt_lt
  exact Nat.lt_of_le_of_lt (show v.toInt.natAbs ≤ 2 ^ 64 by omega) (Nat.pow_lt_pow_right (by decide) (by decide))
theorem c_move (h : WI o X z t p) {r a : Int32} : Ct y_W_move [.ref X, .int r, .int a] o (WV o X (s_move z r a) 9 t p) := by
  have h := WS.start h
  refine RW.ps 2 rfl ?_
  by_cases hr : ¬ okr r
  · exact RW.cx rfl rfl (xrc_v rfl rfl h.x.1) rfl rfl (c_register_no h.x hr) rfl (h.v1 (if_neg (fun k => hr k.1)))
  have hr := Classical.not_not.mp hr
  refine RW.cp rfl rfl (xrc_v rfl rfl h.x.1) rfl rfl (c_register h.x hr) ?_
  refine RW.ps 4 rfl ?_
  by_cases ha : ¬ okr a
  · exact RW.cx rfl rfl (xrc_v rfl rfl h.x.1) rfl rfl (c_register_no h.x ha) rfl (h.v1 (if_neg (fun k => ha k.2)))
  have ha := Classical.not_not.mp ha
  refine RW.cp rfl rfl (xrc_v rfl rfl h.x.1) rfl rfl (c_register h.x ha) ?_
  refine RW.cv rfl rfl (xrc_v rfl rfl (h.w hr).1) rfl rfl (c_wBecome (h.w hr) (h.w ha)) ?_
  intro o1 ⟨f1, w1⟩
  exact RW.re rfl rfl ((h.reg hr.lt f1 w1 (h.top ha)).v0 (if_pos ⟨hr, ha⟩))
theorem top_sum {x y : Nat} (hx : x < TOP) (hy : y < TOP) : x + y < BIG := by
  have h4 : TOP * 2 ≤ BIG := by
    unfold TOP BIG
    rw [b31, ← Nat.pow_succ]
    exact Nat.pow_le_pow_right (by decide) (by decide)
  generalize TOP = T at *
  generalize BIG = B at *
  omega
theorem c_reckon (h : WI o X z t p) {r a b m : Int32} : Ct y_W_reckon [.ref X, .int r, .int a, .int b, .int m] o (WV o X (s_reckon z r a b m) 1 t p) := by
  have h := WS.start h
  refine RW.ps 2 rfl ?_
  by_cases hr : ¬ okr r
  · exact RW.cx rfl rfl (xrc_v rfl rfl h.x.1) rfl rfl (c_register_no h.x hr) rfl (h.v1 (if_neg (fun k => hr k.1)))
  have hr := Classical.not_not.mp hr
  refine RW.cp rfl rfl (xrc_v rfl rfl h.x.1) rfl rfl (c_register h.x hr) ?_
  refine RW.ps 3 rfl ?_
  by_cases ha : ¬ okr a
  · exact RW.cx rfl rfl (xrc_v rfl rfl h.x.1) rfl rfl (c_register_no h.x ha) rfl (h.v1 (if_neg (fun k => ha k.2.1)))
  have ha := Classical.not_not.mp ha
  refine RW.cp rfl rfl (xrc_v rfl rfl h.x.1) rfl rfl (c_register h.x ha) ?_
  refine RW.ps 3 rfl ?_
  by_cases hb : ¬ okr b
  · exact RW.cx rfl rfl (xrc_v rfl rfl h.x.1) rfl rfl (c_register_no h.x hb) rfl (h.v1 (if_neg (fun k => hb k.2.2.1)))
  have hb := Classical.not_not.mp hb
  refine RW.cp rfl rfl (xrc_v rfl rfl h.x.1) rfl rfl (c_register h.x hb) ?_
  refine RW.ps 4 rfl ?_
  by_cases hm : ¬ ((0 : Int32).toInt ≤ m.toInt ∧ m.toInt ≤ (2 : Int32).toInt)
  · exact RW.cx rfl rfl rfl rfl rfl (c_checkRange_no hm) rfl (h.v1 (if_neg (fun k => hm k.2.2.2)))
  have hm := Classical.not_not.mp hm
  refine RW.cv rfl rfl rfl rfl rfl (c_checkRange hm) ?_
  intro o1 ho1
  subst ho1
  have hsp : s_reckon z r a b m = keepV z r (rk m (z (rx a)) (z (rx b))) := if_pos ⟨hr, ha, hb, hm⟩
  rw [hsp]
  clear hsp
  rw [show (0 : Int32).toInt = 0 from rfl, show (2 : Int32).toInt = 2 from rfl] at hm
  have wa := h.w ha
  have wb := h.w hb
  have ta := h.top ha
  have tb := h.top hb
  have na := top_nl ta
  have nb := top_nl tb
  obtain ⟨v0, w0⟩ := h.2.2.1
  refine RW.weak (lv0 := [.ref X, xj, xj, xj, .int m, .ref (X + 60 + 3 * rx r), .ref (X + 60 + 3 * rx a), .ref (X + 60 + 3 * rx b)]) ⟨Or.inr rfl, Or.inl rfl, Or.inl rfl, Or.inl rfl, Or.inr rfl, Or.inr rfl, Or.inr rfl, Or.inr rfl, trivial⟩ ?_
  refine RW.sk [] rfl ?_
  have h70 : ∀ o2 v, WS o1 o2 X z t p → Wn o2 (X + 2) v → v = rk m (z (rx a)) (z (rx b)) → RW (WV o1 X (keepV z r (rk m (z (rx a)) (z (rx b)))) 1 t p) y_W_reckon (xbk y_W_reckon 70) [.ref X, xj, xj, xj, xj, .ref (X + 60 + 3 * rx r), xj, xj] [] o2 := by
    intro o2 v h2 w2 hv
    subst hv
    refine RW.ps 2 rfl ?_
    refine RW.cw rfl rfl (xrc_v rfl rfl h2.x.1) rfl rfl (c_keepResult h2 w2 hr) rfl (fun w o3 h3 => ?_) (fun E o3 h3 => h3)
    obtain ⟨q1, q2, q3⟩ := h3
    rcases q3 with ⟨q3, q4⟩ | ⟨q3, q4⟩ | ⟨q3, q4⟩
    · cases q4
      exact RW.re rfl rfl ⟨q1, q2, Or.inl ⟨q3, rfl⟩⟩
    · cases q4
    · cases q4
  refine RW.ps 2 rfl ?_
  refine RW.icm (fun k => ?_) (fun k => ?_)
  · rw [xi_ne, show (2 : Int32).toInt = 2 from rfl] at k
    refine RW.ps 1 rfl ?_
    refine RW.gf h.x.1 h.x.2.2.1 ?_
    refine RW.ps 4 rfl ?_
    have h67 : ∀ mb : Bool, plus (z (rx a)) (z (rx b)) mb = rk m (z (rx a)) (z (rx b)) → RW (WV o1 X (keepV z r (rk m (z (rx a)) (z (rx b)))) 1 t p) y_W_reckon (xbk y_W_reckon 67) [.ref X, xj, xj, xj, xj, .ref (X + 60 + 3 * rx r), xj, xj] [.int (sg mb), .ref (X + 60 + 3 * rx b), .ref (X + 60 + 3 * rx a), .ref (X + 2)] o1 := by
      intro mb hmb
      refine RW.cv rfl rfl (xrc_v rfl rfl w0.1) rfl rfl (c_becomeSum w0 wa wb (by omega) (by omega) (top_sum ta tb)) ?_
      intro o2 ⟨f2, w2⟩
      exact h70 o2 _ (h.zw f2 (by omega) (by omega) ⟨_, w2⟩) w2 hmb
    refine RW.icm (fun k2 => ?_) (fun k2 => ?_)
    · rw [xi_ne, show (1 : Int32).toInt = 1 from rfl] at k2
      refine RW.ps 1 rfl ?_
      refine RW.weak (lv0 := [.ref X, xj, xj, xj, xj, .ref (X + 60 + 3 * rx r), xj, xj]) ⟨Or.inr rfl, Or.inl rfl, Or.inl rfl, Or.inl rfl, Or.inl rfl, Or.inr rfl, Or.inl rfl, Or.inl rfl, trivial⟩ ?_
      refine RW.sk [.int (sg false), .ref (X + 60 + 3 * rx b), .ref (X + 60 + 3 * rx a), .ref (X + 2)] rfl ?_
      exact h67 false (by unfold rk plus; rw [if_neg k, if_neg k2, if_neg (by decide)])
    · rw [xi_ne, show (1 : Int32).toInt = 1 from rfl] at k2
      have k2 := Classical.not_not.mp k2
      refine RW.ps 1 rfl ?_
      refine RW.go ?_
      refine RW.weak (lv0 := [.ref X, xj, xj, xj, xj, .ref (X + 60 + 3 * rx r), xj, xj]) ⟨Or.inr rfl, Or.inl rfl, Or.inl rfl, Or.inl rfl, Or.inl rfl, Or.inr rfl, Or.inl rfl, Or.inl rfl, trivial⟩ ?_
      refine RW.sk [.int (sg true), .ref (X + 60 + 3 * rx b), .ref (X + 60 + 3 * rx a), .ref (X + 2)] rfl ?_
      exact h67 true (by unfold rk plus; rw [if_neg k, if_pos k2, if_pos rfl])
  · rw [xi_ne, show (2 : Int32).toInt = 2 from rfl] at k
    have k := Classical.not_not.mp k
    refine RW.ps 1 rfl ?_
    refine RW.gf h.x.1 h.x.2.2.1 ?_
    refine RW.ps 2 rfl ?_
    refine RW.cv rfl rfl (xrc_v rfl rfl w0.1) rfl rfl (c_wBecomeProduct w0 wa wb (by omega) (by omega) (by omega)) ?_
    intro o2 ⟨f2, w2⟩
    refine RW.go ?_
    refine RW.weak (lv0 := [.ref X, xj, xj, xj, xj, .ref (X + 60 + 3 * rx r), xj, xj]) ⟨Or.inr rfl, Or.inl rfl, Or.inl rfl, Or.inl rfl, Or.inl rfl, Or.inr rfl, Or.inl rfl, Or.inl rfl, trivial⟩ ?_
    refine RW.sk [] rfl ?_
    exact h70 o2 _ (h.zw f2 (by omega) (by omega) ⟨_, w2⟩) w2 (by unfold rk; rw [if_pos k])
end W1
