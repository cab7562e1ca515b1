/-! THE REFERENCE'S CALLS: say, print, out, turn. -/
section C12
variable {o0 o o' : xO} {Y c : Nat} {z : Nat → Int} {t p : List Int32}
theorem rev_get {q : List Int32} {i : Nat} (h : i < q.length) : q.reverse.getD i 0 = q.getD (q.length - 1 - i) 0 := by
  rw [List.getD_eq_getElem?_getD, List.getD_eq_getElem?_getD, List.getElem?_reverse h]
/-- what was said so far is q -/
theorem c_say {q : List Int32} {ch : Int32} (h : MS o0 o Y z t q.reverse c) (hq : q.length < 8193) : Cv y_M_say [.ref Y, .int ch] o (fun o' => MS o0 o' Y z t (q ++ [ch]).reverse c ∧ Fr [(Y, 1), (Y + 13, 1)] o o') := by
  have hp := h.pp
  rw [show Pm o Y q.reverse = (xf o Y 16 = .int (Int32.ofInt (q.reverse.length : Nat)) ∧ q.reverse.length ≤ 8193 ∧ ∀ i, i < q.reverse.length → xi o (Y + 13) i = q.reverse.reverse.getD i 0) from rfl, List.length_reverse, List.reverse_reverse] at hp
  refine RW.ps 1 rfl ?_
  refine RW.gf h.y h.f15 ?_
  refine RW.ps 1 rfl ?_
  refine RW.gf h.y hp.1 ?_
  refine RW.ps 1 rfl ?_
  refine RW.ist (k := q.length) h.k13 (iu (by omega)) (by omega) ?_
  refine RW.ps 2 rfl ?_
  refine RW.gf (o := xpi o (Y + 13) q.length ch) h.y hp.1 ?_
  refine RW.ps 2 rfl ?_
  refine RW.top (congrArg Value.int (is1 q.length)) ?_
  refine RW.pf (o := xpi o (Y + 13) q.length ch) h.y rfl rfl ?_
  have hP : Pm (xpf (xpi o (Y + 13) q.length ch) Y 16 (.int (Int32.ofInt ((q.length + 1 : Nat) : Int)))) Y (q ++ [ch]).reverse := by
    refine ⟨by rw [List.length_reverse, List.length_append]; exact xpf_same, by rw [List.length_reverse, List.length_append]; exact hq, fun i hi => ?_⟩
    rw [List.length_reverse, List.length_append] at hi
    rw [List.reverse_reverse]
    have hi : i < q.length + 1 := hi
    show xi (xpi o (Y + 13) q.length ch) (Y + 13) i = _
    by_cases hil : i = q.length
    · subst hil
      rw [xpi_same]; simp
    · rw [xpi_ne (fun _ => hil), hp.2.2 i (by omega)]
      simp [List.getD, List.getElem?_append_left (show i < q.length by omega)]
  exact RW.re rfl rfl ⟨rfl, h.pap frT (fun j hj => xpf_ne (fun _ => hj)) hP, frT⟩
theorem Mn.fr2 {a L x b1 b2 : Nat} (h : Mn o a L x) (hf : Fr [(b1, 1), (b2, 1)] o o') (h1 : a ≠ b1) (h2 : a ≠ b2) : Mn o' a L x := by
  have oo : Out [(b1, 1), (b2, 1)] a := ⟨by dsimp only; omega, by dsimp only; omega, trivial⟩
  exact ⟨by rw [hf.k]; exact h.1, h.2.1, h.2.2.1, by rw [hf.i oo]; exact h.2.2.2.1, fun k hk => by rw [hf.i oo]; exact h.2.2.2.2 k hk⟩
theorem c_mprint (h : MI o Y z t p c) {a b : Int32} : Ct y_M_print [.ref Y, .int a, .int b] o (MA o Y z t (if okr a ∧ okb b then pr (z (rx a)) b.toInt.toNat else p) (if okr a ∧ okb b then 0 else 1) (if okr a ∧ okb b then .int (Int32.ofInt ((pr (z (rx a)) b.toInt.toNat).length : Nat)) else .int 0)) := by
  have h := MS.start h
  have hbad : ¬ (okr a ∧ okb b) → RW (MA o Y z t (if okr a ∧ okb b then pr (z (rx a)) b.toInt.toNat else p) (if okr a ∧ okb b then 0 else 1) (if okr a ∧ okb b then .int (Int32.ofInt ((pr (z (rx a)) b.toInt.toNat).length : Nat)) else .int 0)) y_M_print (xbk y_M_print 23) [.ref Y] [.ref Y] o := by
    intro hno
    rw [if_neg hno, if_neg hno, if_neg hno]
    refine RW.ps 1 rfl ?_
    refine RW.pf h.y rfl rfl ?_
    have h1 : MS o (xpf o Y 0 (.int 1)) Y z t p 1 := h.code 1
    refine RW.ps 1 rfl ?_
    refine RW.gf h1.y h1.cd ?_
    refine RW.ifc (fun k => absurd (xi_le.mp k) (by decide)) (fun _ => ?_)
    refine RW.ps 1 rfl ?_
    exact RW.re rfl rfl ⟨h1.1, h1.2, rfl⟩
  refine RW.ps 2 rfl ?_
  by_cases ha : ¬ okr a
  · refine RW.cp rfl rfl rfl rfl rfl (c_isRegister a) ?_
    rw [if_neg ha]
    refine RW.ifc (fun _ => ?_) (fun k => absurd (xi_eq.mpr rfl) k)
    refine RW.weak (lv0 := [.ref Y]) ⟨Or.inr rfl, trivial⟩ ?_
    exact hbad (fun k => ha k.1)
  have ha := Classical.not_not.mp ha
  refine RW.cp rfl rfl rfl rfl rfl (c_isRegister a) ?_
  rw [if_pos ha]
  refine RW.ifc (fun k => absurd (xi_eq.mp k) (by decide)) (fun _ => ?_)
  refine RW.ps 2 rfl ?_
  refine RW.icm (fun k => ?_) (fun k => ?_)
  · rw [xi_lt, show (2 : Int32).toInt = 2 from rfl] at k
    refine RW.weak (lv0 := [.ref Y]) ⟨Or.inr rfl, trivial⟩ ?_
    exact hbad (fun q => by have := q.2.1; omega)
  rw [xi_lt, show (2 : Int32).toInt = 2 from rfl] at k
  refine RW.ps 2 rfl ?_
  refine RW.icm (fun k2 => ?_) (fun k2 => ?_)
  · rw [xi_gt, show (36 : Int32).toInt = 36 from rfl] at k2
    refine RW.weak (lv0 := [.ref Y]) ⟨Or.inr rfl, trivial⟩ ?_
    exact hbad (fun q => by have := q.2.2; omega)
  rw [xi_gt, show (36 : Int32).toInt = 36 from rfl] at k2
  clear hbad
  have hok : okr a ∧ okb b := ⟨ha, by omega, by omega⟩
  refine RW.ps 1 rfl ?_
  refine RW.go ?_
  refine RW.pf h.y rfl rfl ?_
  have h1 : MS o (xpf o Y 0 (.int 0)) Y z t p 0 := h.code 0
  refine RW.ps 1 rfl ?_
  refine RW.gf h1.y h1.cd ?_
  refine RW.ifc (fun _ => ?_) (fun k => absurd (xi_le.mpr (by decide)) k)
  generalize xpf o Y 0 (.int 0) = o1 at h1 ⊢
  rw [if_pos hok, if_pos hok, if_pos hok]
  have hb2 : b.toInt = (b.toInt.toNat : Int) := by omega
  have hbw := i_of hb2
  have hn2 : 2 ≤ b.toInt.toNat := by omega
  have hn3 : b.toInt.toNat ≤ 36 := by omega
  generalize b.toInt.toNat = n at *
  have hnpos : 0 < n := by omega
  refine RW.weak (lv0 := [.ref Y, .int a, .int b, xj, xj, xj, xj, xj, xj]) ⟨Or.inr rfl, Or.inr rfl, Or.inr rfl, Or.inl rfl, Or.inl rfl, Or.inl rfl, Or.inl rfl, Or.inl rfl, Or.inl rfl, trivial⟩ ?_
  refine RW.sk [] rfl ?_
  refine RW.ps 3 rfl ?_
  refine RW.gf h1.y h1.f3 ?_
  refine RW.cv rfl rfl (xrc_v rfl rfl h1.y) rfl rfl (c_mload h1 ha 3 (by decide)) ?_
  intro o2 ⟨h2, m2, f2⟩
  have ta := h2.top ha
  refine RW.ps 2 rfl ?_
  refine RW.pf h2.y rfl rfl ?_
  have h3 : MS o (xpf o2 Y 16 (.int 0)) Y z t ([] : List Int32).reverse 0 := by
    refine h2.pap ?_ (fun j hj => xpf_ne (fun _ => hj)) ⟨xpf_same, Nat.zero_le _, fun i hi => absurd hi (Nat.not_lt_zero i)⟩
    exact ⟨rfl, rfl, fun e he => ⟨rfl, by funext i; exact xpf_ne (fun e' => absurd e' (by have := he.1; dsimp only at this; omega))⟩⟩
  have m3 : Mn (xpf o2 Y 16 (.int 0)) (Y + 3) 1200 (z (rx a)).natAbs := m2
  generalize xpf o2 Y 16 (.int 0) = o3 at h3 m3 ⊢
  generalize hx : z (rx a) = x at *
  -- turning it round
  have h199 : ∀ o4 q, MS o o4 Y z t q.reverse 0 → q = pr x n → ∀ l3 l4 l5 l6 l7 l8, RW (MA o Y z t (pr x n) 0 (.int (Int32.ofInt ((pr x n).length : Nat)))) y_M_print (xbk y_M_print 199) [.ref Y, l3, l4, xj, xj, xj, l5, l6, l7, l8] [] o4 := by
    sorry
  sorry
end C12
