/-! THE REFERENCE'S CALLS: say, print, out, turn. -/
section C12
variable {o0 o o' : xO} {Y c : Nat} {z : Nat → Int} {t p : List Int32}
theorem rev_get {q : List Int32} {i : Nat} (h : i < q.length) : q.reverse.getD i 0 = q.getD (q.length - 1 - i) 0 := by
  rw [List.getD_eq_getElem?_getD, List.getD_eq_getElem?_getD, List.getElem?_reverse h]
/-- what was said so far is q -/
theorem c_say {q : List Int32} {ch : Int32} (h : MS o0 o Y z t q.reverse c) (hq : q.length < 8193) : Cv y_M_say [.ref Y, .int ch] o (fun o' => MS o0 o' Y z t (q ++ [ch]).reverse c ∧ Fr [(Y, 1), (Y + 13, 1)] o o') := by
  have hp := h.pp
  rw [show Pm o Y q.reverse = (xf o Y 16 = .int (Int32.ofInt (q.reverse.length : Nat)) ∧ q.reverse.length ≤ 8193 ∧ ∀ i, i < q.reverse.length → xi o (Y + 13) i = q.reverse.reverse.getD i 0) from rfl, List.length_reverse, List.reverse_reverse] at hp
  refine RW.ps 1 rfl ?_
  refine RW.gf h.y h.f15 ?_
  refine RW.ps 1 rfl ?_
  refine RW.gf h.y hp.1 ?_
  refine RW.ps 1 rfl ?_
  refine RW.ist (k := q.length) h.k13 (iu (by omega)) (by omega) ?_
  refine RW.ps 2 rfl ?_
  refine RW.gf (o := xpi o (Y + 13) q.length ch) h.y hp.1 ?_
  refine RW.ps 2 rfl ?_
  refine RW.top (congrArg Value.int (is1 q.length)) ?_
  refine RW.pf (o := xpi o (Y + 13) q.length ch) h.y rfl rfl ?_
  have hP : Pm (xpf (xpi o (Y + 13) q.length ch) Y 16 (.int (Int32.ofInt ((q.length + 1 : Nat) : Int)))) Y (q ++ [ch]).reverse := by
    refine ⟨by rw [List.length_reverse, List.length_append]; exact xpf_same, by rw [List.length_reverse, List.length_append]; exact hq, fun i hi => ?_⟩
    rw [List.length_reverse, List.length_append] at hi
    rw [List.reverse_reverse]
    have hi : i < q.length + 1 := hi
    show xi (xpi o (Y + 13) q.length ch) (Y + 13) i = _
    by_cases hil : i = q.length
    · subst hil
      rw [xpi_same]; simp
    · rw [xpi_ne (fun _ => hil), hp.2.2 i (by omega)]
      simp [List.getD, List.getElem?_append_left (show i < q.length by omega)]
  exact RW.re rfl rfl ⟨rfl, h.pap frT (fun j hj => xpf_ne (fun _ => hj)) hP, frT⟩
theorem Mn.fr2 {a L x b1 b2 : Nat} (h : Mn o a L x) (hf : Fr [(b1, 1), (b2, 1)] o o') (h1 : a ≠ b1) (h2 : a ≠ b2) : Mn o' a L x := by
  have oo : Out [(b1, 1), (b2, 1)] a := ⟨by dsimp only; omega, by dsimp only; omega, trivial⟩
  exact ⟨by rw [hf.k]; exact h.1, h.2.1, h.2.2.1, by rw [hf.i oo]; exact h.2.2.2.1, fun k hk => by rw [hf.i oo]; exact h.2.2.2.2 k hk⟩
theorem c_mprint (h : MI o Y z t p c) {a b : Int32} : Ct y_M_print [.ref Y, .int a, .int b] o (MA o Y z t (if okr a ∧ okb b then pr (z (rx a)) b.toInt.toNat else p) (if okr a ∧ okb b then 0 else 1) (if okr a ∧ okb b then .int (Int32.ofInt ((pr (z (rx a)) b.toInt.toNat).length : Nat)) else .int 0)) := by
  have h := MS.start h
  have hbad : ¬ (okr a ∧ okb b) → RW (MA o Y z t (if okr a ∧ okb b then pr (z (rx a)) b.toInt.toNat else p) (if okr a ∧ okb b then 0 else 1) (if okr a ∧ okb b then .int (Int32.ofInt ((pr (z (rx a)) b.toInt.toNat).length : Nat)) else .int 0)) y_M_print (xbk y_M_print 23) [.ref Y] [.ref Y] o := by
    intro hno
    rw [if_neg hno, if_neg hno, if_neg hno]
    refine RW.ps 1 rfl ?_
    refine RW.pf h.y rfl rfl ?_
    have h1 : MS o (xpf o Y 0 (.int 1)) Y z t p 1 := h.code 1
    refine RW.ps 1 rfl ?_
    refine RW.gf h1.y h1.cd ?_
    refine RW.ifc (fun k => absurd (xi_le.mp k) (by decide)) (fun _ => ?_)
    refine RW.ps 1 rfl ?_
    exact RW.re rfl rfl ⟨h1.1, h1.2, rfl⟩
  refine RW.ps 2 rfl ?_
  by_cases ha : ¬ okr a
  · refine RW.cp rfl rfl rfl rfl rfl (c_isRegister a) ?_
    rw [if_neg ha]
    refine RW.ifc (fun _ => ?_) (fun k => absurd (xi_eq.mpr rfl) k)
    refine RW.weak (lv0 := [.ref Y]) ⟨Or.inr rfl, trivial⟩ ?_
    exact hbad (fun k => ha k.1)
  have ha := Classical.not_not.mp ha
  refine RW.cp rfl rfl rfl rfl rfl (c_isRegister a) ?_
  rw [if_pos ha]
  refine RW.ifc (fun k => absurd (xi_eq.mp k) (by decide)) (fun _ => ?_)
  refine RW.ps 2 rfl ?_
  refine RW.icm (fun k => ?_) (fun k => ?_)
  · rw [xi_lt, show (2 : Int32).toInt = 2 from rfl] at k
    refine RW.weak (lv0 := [.ref Y]) ⟨Or.inr rfl, trivial⟩ ?_
    exact hbad (fun q => by have := q.2.1; omega)
  rw [xi_lt, show (2 : Int32).toInt = 2 from rfl] at k
  refine RW.ps 2 rfl ?_
  refine RW.icm (fun k2 => ?_) (fun k2 => ?_)
  · rw [xi_gt, show (36 : Int32).toInt = 36 from rfl] at k2
    refine RW.weak (lv0 := [.ref Y]) ⟨Or.inr rfl, trivial⟩ ?_
    exact hbad (fun q => by have := q.2.2; omega)
  rw [xi_gt, show (36 : Int32).toInt = 36 from rfl] at k2
  clear hbad
  have hok : okr a ∧ okb b := ⟨ha, by omega, by omega⟩
  refine RW.ps 1 rfl ?_
  refine RW.go ?_
  refine RW.pf h.y rfl rfl ?_
  have h1 : MS o (xpf o Y 0 (.int 0)) Y z t p 0 := h.code 0
  refine RW.ps 1 rfl ?_
  refine RW.gf h1.y h1.cd ?_
  refine RW.ifc (fun _ => ?_) (fun k => absurd (xi_le.mpr (by decide)) k)
  generalize xpf o Y 0 (.int 0) = o1 at h1 ⊢
  rw [if_pos hok, if_pos hok, if_pos hok]
  have hb2 : b.toInt = (b.toInt.toNat : Int) := by omega
  have hbw := i_of hb2
  have hn2 : 2 ≤ b.toInt.toNat := by omega
  have hn3 : b.toInt.toNat ≤ 36 := by omega
  generalize b.toInt.toNat = n at *
  have hnpos : 0 < n := by omega
  refine RW.weak (lv0 := [.ref Y, .int a, .int b, xj, xj, xj, xj, xj, xj]) ⟨Or.inr rfl, Or.inr rfl, Or.inr rfl, Or.inl rfl, Or.inl rfl, Or.inl rfl, Or.inl rfl, Or.inl rfl, Or.inl rfl, trivial⟩ ?_
  refine RW.sk [] rfl ?_
  refine RW.ps 3 rfl ?_
  refine RW.gf h1.y h1.f3 ?_
  refine RW.cv rfl rfl (xrc_v rfl rfl h1.y) rfl rfl (c_mload h1 ha 3 (by decide)) ?_
  intro o2 ⟨h2, m2, f2⟩
  have ta := h2.top ha
  refine RW.ps 2 rfl ?_
  refine RW.pf h2.y rfl rfl ?_
  have h3 : MS o (xpf o2 Y 16 (.int 0)) Y z t ([] : List Int32).reverse 0 := by
    refine h2.pap ?_ (fun j hj => xpf_ne (fun _ => hj)) ⟨xpf_same, Nat.zero_le _, fun i hi => absurd hi (Nat.not_lt_zero i)⟩
    exact ⟨rfl, rfl, fun e he => ⟨rfl, by funext i; exact xpf_ne (fun e' => absurd e' (by have := he.1; dsimp only at this; omega))⟩⟩
  have m3 : Mn (xpf o2 Y 16 (.int 0)) (Y + 3) 1200 (z (rx a)).natAbs := m2
  generalize xpf o2 Y 16 (.int 0) = o3 at h3 m3 ⊢
  generalize hx : z (rx a) = x at *
  have hprl : (pr x n).length ≤ 8193 := by
    unfold pr
    rw [List.length_append]
    have h1 : (if x = 0 then [48] else dgl n 8192 x.natAbs : List Int32).length ≤ 8192 := by
      by_cases hz0 : x = 0
      · rw [if_pos hz0]; decide
      · rw [if_neg hz0]; exact dgl_len _ _ _
    have h2 : (if x < 0 then [45] else [] : List Int32).length ≤ 1 := by split <;> decide
    omega
  -- turning it round
  have h199 : ∀ o4 q, MS o o4 Y z t q.reverse 0 → q = pr x n → RW (MA o Y z t (pr x n) 0 (.int (Int32.ofInt ((pr x n).length : Nat)))) y_M_print (xbk y_M_print 199) [.ref Y, xj, xj, xj, xj, xj, xj, xj, xj] [] o4 := by
    intro o4 q h4 hq
    have hql : q.length ≤ 8193 := by rw [hq]; exact hprl
    have hp := h4.pp
    rw [show Pm o4 Y q.reverse = (xf o4 Y 16 = .int (Int32.ofInt (q.reverse.length : Nat)) ∧ q.reverse.length ≤ 8193 ∧ ∀ i, i < q.reverse.length → xi o4 (Y + 13) i = q.reverse.reverse.getD i 0) from rfl, List.length_reverse, List.reverse_reverse] at hp
    have loop : ∀ e k (kw : Int32) w, k + e = q.length / 2 → kw.toInt = (k : Int) → Fr [(Y + 13, 1)] o4 w → (∀ i, i < q.length → xi w (Y + 13) i = if i < k ∨ q.length ≤ i + k then q.getD (q.length - 1 - i) 0 else q.getD i 0) → RW (MA o Y z t (pr x n) 0 (.int (Int32.ofInt ((pr x n).length : Nat)))) y_M_print (xbk y_M_print 202) [.ref Y, xj, xj, xj, xj, xj, .int kw, xj, xj] [] w := by
      intro e
      induction e with
      | zero =>
        intro k kw w hk hkw hf hi
        have oY : Out [(Y + 13, 1)] Y := Out.one (by omega)
        have p16 : xf w Y 16 = .int (Int32.ofInt (q.length : Nat)) := (hf.f oY 16).trans hp.1
        have hy : xk w Y = (3, 9) := hf.k.trans h4.y
        refine RW.ps 2 rfl ?_
        refine RW.gf hy p16 ?_
        refine RW.ps 1 rfl ?_
        refine RW.idv (by decide) ?_
        refine RW.top (congrArg Value.int ((show Int32.ofInt (q.length : Nat) / 2 = Int32.ofInt ((q.length / 2 : Nat) : Int) by rw [show (2 : Int32) = Int32.ofInt ((2 : Nat) : Int) by decide]; exact i_div (by omega) (by decide)))) ?_
        refine RW.icm (fun _ => ?_) (fun k3 => ?_)
        rotate_left
        · rw [xi_ge, iu (by omega), hkw] at k3; omega
        refine RW.ps 1 rfl ?_
        refine RW.gf hy p16 ?_
        have hP : Pm w Y q := by
          refine ⟨p16, hql, fun i hil => ?_⟩
          rw [hi i hil, rev_get hil]
          by_cases hc : i < k ∨ q.length ≤ i + k
          · rw [if_pos hc]
          · rw [if_neg hc, show q.length - 1 - i = i by omega]
        have h5 := h4.pap (hf.up (fun b hb => by simp only [Out, and_true] at hb ⊢; omega)) (fun j _ => hf.f oY j) hP
        rw [hq] at h5 ⊢
        exact RW.re rfl rfl ⟨h5.1, h5.2, rfl⟩
      | succ e ih =>
        intro k kw w hk hkw hf hi
        have oY : Out [(Y + 13, 1)] Y := Out.one (by omega)
        have p16 : xf w Y 16 = .int (Int32.ofInt (q.length : Nat)) := (hf.f oY 16).trans hp.1
        have p15 : xf w Y 15 = .ref (Y + 13) := (hf.f oY 15).trans h4.f15
        have hy : xk w Y = (3, 9) := hf.k.trans h4.y
        have k13 : xk w (Y + 13) = (1, 8200) := hf.k.trans h4.k13
        have hidx : (Int32.ofInt (q.length : Nat) - 1 - kw).toInt = ((q.length - 1 - k : Nat) : Int) := by
          rw [i_of hkw, show (1 : Int32) = Int32.ofInt 1 by decide, ii_sub, ii_sub, ii_toInt (by omega) (by omega)]; omega
        have e1 := hi k (by omega)
        rw [if_neg (by omega)] at e1
        have e2 := hi (q.length - 1 - k) (by omega)
        rw [if_neg (by omega)] at e2
        refine RW.ps 2 rfl ?_
        refine RW.gf hy p16 ?_
        refine RW.ps 1 rfl ?_
        refine RW.idv (by decide) ?_
        refine RW.top (congrArg Value.int ((show Int32.ofInt (q.length : Nat) / 2 = Int32.ofInt ((q.length / 2 : Nat) : Int) by rw [show (2 : Int32) = Int32.ofInt ((2 : Nat) : Int) by decide]; exact i_div (by omega) (by decide)))) ?_
        refine RW.icm (fun k3 => ?_) (fun _ => ?_)
        · rw [xi_ge, iu (by omega), hkw] at k3; omega
        refine RW.ps 1 rfl ?_
        refine RW.gf hy p15 ?_
        refine RW.ps 1 rfl ?_
        refine RW.ia k13 hkw (by omega) ?_
        rw [e1]
        refine RW.ps 2 rfl ?_
        refine RW.gf hy p15 ?_
        refine RW.ps 2 rfl ?_
        refine RW.gf hy p15 ?_
        refine RW.ps 1 rfl ?_
        refine RW.gf hy p16 ?_
        refine RW.ps 4 rfl ?_
        refine RW.ia k13 hidx (by omega) ?_
        rw [e2]
        refine RW.ist (k := k) k13 hkw (by omega) ?_
        have f5 : Fr [(Y + 13, 1)] o4 (xpi w (Y + 13) k (q.getD (q.length - 1 - k) 0)) := hf.trans Fr.pi
        have hi5 : ∀ i, i < q.length → xi (xpi w (Y + 13) k (q.getD (q.length - 1 - k) 0)) (Y + 13) i = if i = k then q.getD (q.length - 1 - k) 0 else xi w (Y + 13) i := by
          intro i _
          by_cases hik : i = k
          · rw [if_pos hik, hik, xpi_same]
          · rw [if_neg hik, xpi_ne (fun _ => hik)]
        generalize xpi w (Y + 13) k (q.getD (q.length - 1 - k) 0) = w2 at f5 hi5 ⊢
        have p16' : xf w2 Y 16 = .int (Int32.ofInt (q.length : Nat)) := (f5.f oY 16).trans hp.1
        have p15' : xf w2 Y 15 = .ref (Y + 13) := (f5.f oY 15).trans h4.f15
        have hy' : xk w2 Y = (3, 9) := f5.k.trans h4.y
        have k13' : xk w2 (Y + 13) = (1, 8200) := f5.k.trans h4.k13
        refine RW.ps 1 rfl ?_
        refine RW.gf hy' p15' ?_
        refine RW.ps 1 rfl ?_
        refine RW.gf hy' p16' ?_
        refine RW.ps 5 rfl ?_
        refine RW.ist (k := q.length - 1 - k) k13' hidx (by omega) ?_
        refine RW.ps 1 rfl ?_
        refine RW.go ?_
        refine RW.weak (lv0 := [.ref Y, xj, xj, xj, xj, xj, .int (kw + 1), xj, xj]) ⟨Or.inr rfl, Or.inl rfl, Or.inl rfl, Or.inl rfl, Or.inl rfl, Or.inl rfl, Or.inr rfl, Or.inl rfl, Or.inl rfl, trivial⟩ ?_
        refine RW.sk [] rfl ?_
        refine ih (k + 1) (kw + 1) _ (by omega) (i_succ hkw (by omega)) (f5.trans Fr.pi) (fun i hil => ?_)
        by_cases hi1 : i = q.length - 1 - k
        · subst hi1
          rw [xpi_same, if_pos (by omega)]
          congr 1; omega
        · rw [xpi_ne (fun _ => hi1), hi5 i hil]
          by_cases hi2 : i = k
          · subst hi2
            rw [if_pos rfl, if_pos (by omega)]
          · rw [if_neg hi2, hi i hil]
            by_cases hc : i < k ∨ q.length ≤ i + k
            · rw [if_pos hc, if_pos (by omega)]
            · rw [if_neg hc, if_neg (by omega)]
    refine RW.ps 2 rfl ?_
    refine RW.weak (lv0 := [.ref Y, xj, xj, xj, xj, xj, .int 0, xj, xj]) ⟨Or.inr rfl, Or.inl rfl, Or.inl rfl, Or.inl rfl, Or.inl rfl, Or.inl rfl, Or.inr rfl, Or.inl rfl, Or.inl rfl, trivial⟩ ?_
    refine RW.sk [] rfl ?_
    exact loop (q.length / 2) 0 0 o4 (Nat.zero_add _) rfl (Fr.refl _ _) (fun i hil => by rw [hp.2.2 i hil, if_neg (by omega)])
  -- the hyphen
  have h184 : ∀ o4 q, MS o o4 Y z t q.reverse 0 → q = (if x = 0 then [48] else dgl n 8192 x.natAbs) → RW (MA o Y z t (pr x n) 0 (.int (Int32.ofInt ((pr x n).length : Nat)))) y_M_print (xbk y_M_print 184) [.ref Y, .int a, xj, xj, xj, xj, xj, xj, xj] [] o4 := by
    intro o4 q h4 hq
    have hql : q.length ≤ 8192 := by
      rw [hq]
      by_cases hz0 : x = 0
      · rw [if_pos hz0]; decide
      · rw [if_neg hz0]; exact dgl_len _ _ _
    refine RW.ps 1 rfl ?_
    refine RW.gf h4.y h4.f2 ?_
    refine RW.ps 1 rfl ?_
    refine RW.ia h4.k2 ha.ix ha.lt ?_
    rw [h4.sv ha, hx]
    refine RW.ifc (fun k3 => ?_) (fun k3 => ?_)
    · have k3 := sign_lt.mp k3
      refine RW.weak (lv0 := [.ref Y, xj, xj, xj, xj, xj, xj, xj, xj]) ⟨Or.inr rfl, Or.inl rfl, Or.inl rfl, Or.inl rfl, Or.inl rfl, Or.inl rfl, Or.inl rfl, Or.inl rfl, Or.inl rfl, trivial⟩ ?_
      refine RW.sk [] rfl ?_
      exact h199 o4 q h4 (by unfold pr; rw [if_neg (show ¬ x < 0 by omega), List.append_nil]; exact hq)
    · have k3 : x < 0 := Int.not_le.mp (fun g => k3 (sign_lt.mpr g))
      refine RW.ps 2 rfl ?_
      refine RW.cv rfl rfl (xrc_v rfl rfl h4.y) rfl rfl (c_say h4 (by omega)) ?_
      intro o5 ⟨h5, f5⟩
      refine RW.weak (lv0 := [.ref Y, xj, xj, xj, xj, xj, xj, xj, xj]) ⟨Or.inr rfl, Or.inl rfl, Or.inl rfl, Or.inl rfl, Or.inl rfl, Or.inl rfl, Or.inl rfl, Or.inl rfl, Or.inl rfl, trivial⟩ ?_
      refine RW.sk [] rfl ?_
      exact h199 o5 _ h5 (by unfold pr; rw [if_pos k3, hq])
  -- the groups
  have h76 : ∀ d, 0 < d → d ≤ 15 → n ^ d < 32768 → ∀ (m X : Nat) q o4, X < 2 ^ m → X < TOP → ((X ≠ 0 ∧ q ++ dgl n 8192 X = (if x = 0 then [48] else dgl n 8192 x.natAbs)) ∨ (X = 0 ∧ q = [] ∧ x = 0)) → MS o o4 Y z t q.reverse 0 → Mn o4 (Y + 3) 1200 X → RW (MA o Y z t (pr x n) 0 (.int (Int32.ofInt ((pr x n).length : Nat)))) y_M_print (xbk y_M_print 76) [.ref Y, .int a, .int b, .int (Int32.ofInt ((n ^ d : Nat) : Int)), .int (Int32.ofInt (d : Nat)), .int 1, xj, xj, xj] [] o4 := by
    intro d hd hd2 hG
    have hG0 : 0 < n ^ d := Nat.pow_pos hnpos
    have hG2 : 2 ≤ n ^ d := by
      have h1 : n ^ 1 ≤ n ^ d := Nat.pow_le_pow_right hnpos hd
      rw [Nat.pow_one] at h1; omega
    have htl : (if x = 0 then [48] else dgl n 8192 x.natAbs : List Int32).length ≤ 8192 := by
      by_cases hz0 : x = 0
      · rw [if_pos hz0]; decide
      · rw [if_neg hz0]; exact dgl_len _ _ _
    have hchr : ∀ dd : Nat, dd < 36 → ∀ v : Int32, (dd < 10 → v = 48 + Int32.ofInt (dd : Nat)) → (¬ dd < 10 → v = 55 + Int32.ofInt (dd : Nat)) → v = chr dd := by
      intro dd hdd v h1 h2
      unfold chr
      by_cases hc : dd < 10
      · rw [if_pos hc, h1 hc, show (48 : Int32) = Int32.ofInt 48 by decide, ii_add]; congr 1
      · rw [if_neg hc, h2 hc, show (55 : Int32) = Int32.ofInt 55 by decide, ii_add]; congr 1
    -- a digit is said
    have h139 : ∀ (M k : Nat) (kw mw : Int32) q' o4, M < 32768 → kw.toInt = (k : Int) → k < d → q'.length < 8193 → MS o o4 Y z t q'.reverse 0 → (∀ o5, MS o o5 Y z t (q' ++ [chr (M % n)]).reverse 0 → Fr [(Y, 1), (Y + 13, 1)] o4 o5 → RW (MA o Y z t (pr x n) 0 (.int (Int32.ofInt ((pr x n).length : Nat)))) y_M_print (xbk y_M_print 110) [.ref Y, .int a, .int b, .int (Int32.ofInt ((n ^ d : Nat) : Int)), .int (Int32.ofInt (d : Nat)), .int mw, .int (Int32.ofInt ((M / n : Nat) : Int)), .int (kw + 1), xj] [] o5) → RW (MA o Y z t (pr x n) 0 (.int (Int32.ofInt ((pr x n).length : Nat)))) y_M_print (xbk y_M_print 139) [.ref Y, .int a, .int b, .int (Int32.ofInt ((n ^ d : Nat) : Int)), .int (Int32.ofInt (d : Nat)), .int mw, .int (Int32.ofInt (M : Nat)), .int kw, xj] [] o4 := by
      intro M k kw mw q' o4 hM hkw hkd hql h4 hnext
      have hbz : ¬ b = 0 := by intro g; rw [g, i0] at hb2; omega
      have hMn : M % n < 36 := Nat.lt_of_lt_of_le (Nat.mod_lt _ hnpos) hn3
      have hMd : M / n ≤ M := Nat.div_le_self _ _
      refine RW.ps 2 rfl ?_
      refine RW.irm hbz ?_
      refine RW.top (congrArg Value.int ((show Int32.ofInt (M : Nat) - Int32.ofInt (M : Nat) / b * b = Int32.ofInt ((M % n : Nat) : Int) by rw [hbw]; exact i_rem (by omega) (by omega)))) ?_
      refine RW.ps 4 rfl ?_
      have h166 : ∀ v : Int32, v = chr (M % n) → RW (MA o Y z t (pr x n) 0 (.int (Int32.ofInt ((pr x n).length : Nat)))) y_M_print (xbk y_M_print 166) [.ref Y, .int a, .int b, .int (Int32.ofInt ((n ^ d : Nat) : Int)), .int (Int32.ofInt (d : Nat)), .int mw, .int (Int32.ofInt (M : Nat)), .int kw, xj] [.int v, .ref Y] o4 := by
        intro v hv
        subst hv
        refine RW.cv rfl rfl (xrc_v rfl rfl h4.y) rfl rfl (c_say h4 hql) ?_
        intro o5 ⟨h5, f5⟩
        refine RW.ps 2 rfl ?_
        refine RW.idv hbz ?_
        refine RW.top (congrArg Value.int ((show Int32.ofInt (M : Nat) / b = Int32.ofInt ((M / n : Nat) : Int) by rw [hbw]; exact i_div (by omega) (by omega)))) ?_
        refine RW.ps 2 rfl ?_
        refine RW.go ?_
        refine RW.weak (lv0 := [.ref Y, .int a, .int b, .int (Int32.ofInt ((n ^ d : Nat) : Int)), .int (Int32.ofInt (d : Nat)), .int mw, .int (Int32.ofInt ((M / n : Nat) : Int)), .int (kw + 1), xj]) ⟨Or.inr rfl, Or.inr rfl, Or.inr rfl, Or.inr rfl, Or.inr rfl, Or.inr rfl, Or.inr rfl, Or.inr rfl, Or.inl rfl, trivial⟩ ?_
        refine RW.sk [] rfl ?_
        exact hnext o5 h5 f5
      refine RW.icm (fun k3 => ?_) (fun k3 => ?_)
      · rw [xi_ge, iu (by omega), show (10 : Int32).toInt = 10 from rfl] at k3
        refine RW.ps 3 rfl ?_
        refine RW.weak (lv0 := [.ref Y, .int a, .int b, .int (Int32.ofInt ((n ^ d : Nat) : Int)), .int (Int32.ofInt (d : Nat)), .int mw, .int (Int32.ofInt (M : Nat)), .int kw, xj]) ⟨Or.inr rfl, Or.inr rfl, Or.inr rfl, Or.inr rfl, Or.inr rfl, Or.inr rfl, Or.inr rfl, Or.inr rfl, Or.inl rfl, trivial⟩ ?_
        refine RW.sk [.int (55 + Int32.ofInt ((M % n : Nat) : Int)), .ref Y] rfl ?_
        exact h166 _ (hchr _ hMn _ (fun g => by omega) (fun _ => rfl))
      · rw [xi_ge, iu (by omega), show (10 : Int32).toInt = 10 from rfl] at k3
        refine RW.ps 3 rfl ?_
        refine RW.go ?_
        refine RW.weak (lv0 := [.ref Y, .int a, .int b, .int (Int32.ofInt ((n ^ d : Nat) : Int)), .int (Int32.ofInt (d : Nat)), .int mw, .int (Int32.ofInt (M : Nat)), .int kw, xj]) ⟨Or.inr rfl, Or.inr rfl, Or.inr rfl, Or.inr rfl, Or.inr rfl, Or.inr rfl, Or.inr rfl, Or.inr rfl, Or.inl rfl, trivial⟩ ?_
        refine RW.sk [.int (48 + Int32.ofInt ((M % n : Nat) : Int)), .ref Y] rfl ?_
        exact h166 _ (hchr _ hMn _ (fun _ => rfl) (fun g => by omega))
    -- 0 alone
    have hB : ∀ o4, x = 0 → MS o o4 Y z t ([] : List Int32).reverse 0 → Mn o4 (Y + 3) 1200 0 → RW (MA o Y z t (pr x n) 0 (.int (Int32.ofInt ((pr x n).length : Nat)))) y_M_print (xbk y_M_print 76) [.ref Y, .int a, .int b, .int (Int32.ofInt ((n ^ d : Nat) : Int)), .int (Int32.ofInt (d : Nat)), .int 1, xj, xj, xj] [] o4 := by
      intro o4 hx0 h4 m4
      refine RW.ps 1 rfl ?_
      refine RW.ifc (fun k3 => absurd (xi_eq.mp k3) (by decide)) (fun _ => ?_)
      refine RW.ps 1 rfl ?_
      refine RW.gf h4.y h4.f3 ?_
      refine RW.ps 1 rfl ?_
      refine RW.cq rfl rfl rfl rfl rfl (c_divideSmall m4 (by decide) (iu (u := n ^ d) (by omega)) hG0 (by omega)) ?_
      intro v o5 ⟨hv, f5, m5⟩
      subst hv
      rw [Nat.zero_div] at m5
      rw [Nat.zero_mod]
      have h5 := h4.scr f5 (by omega) (by omega)
      refine RW.ps 2 rfl ?_
      refine RW.gf h5.y h5.f3 ?_
      refine RW.ps 1 rfl ?_
      refine RW.ia m5.1 i0n (by decide) ?_
      rw [m5.2.2.2.1, n16_zero.mpr rfl]
      refine RW.ifc (fun _ => ?_) (fun k3 => absurd (xi_le.mpr (by decide)) k3)
      refine RW.ps 1 rfl ?_
      refine RW.ps 3 rfl ?_
      refine RW.weak (lv0 := [.ref Y, .int a, .int b, .int (Int32.ofInt ((n ^ d : Nat) : Int)), .int (Int32.ofInt (d : Nat)), .int 0, .int (Int32.ofInt ((0 : Nat) : Int)), .int 0, xj]) ⟨Or.inr rfl, Or.inr rfl, Or.inr rfl, Or.inr rfl, Or.inr rfl, Or.inr rfl, Or.inr rfl, Or.inr rfl, Or.inl rfl, trivial⟩ ?_
      refine RW.sk [] rfl ?_
      refine RW.ps 2 rfl ?_
      refine RW.icm (fun k3 => ?_) (fun _ => ?_)
      · rw [xi_ge, iu (by omega), i0] at k3; omega
      refine RW.ps 1 rfl ?_
      refine RW.ifc (fun k3 => absurd rfl (xi_ne.mp k3)) (fun _ => ?_)
      refine RW.ps 1 rfl ?_
      refine RW.ifc (fun k3 => absurd (xi_gt.mp k3) (by decide)) (fun _ => ?_)
      refine RW.ps 1 rfl ?_
      refine RW.ifc (fun k3 => absurd rfl (xi_ne.mp k3)) (fun _ => ?_)
      refine RW.ps 1 rfl ?_
      refine RW.gf h5.y h5.pp.1 ?_
      refine RW.ifc (fun k3 => absurd rfl (xi_ne.mp k3)) (fun _ => ?_)
      refine h139 0 0 0 0 [] o5 (by decide) rfl hd (by decide) h5 (fun o6 h6 f6 => ?_)
      rw [Nat.zero_div]
      have h184' := h184 o6 ([] ++ [chr (0 % n)]) h6 (by rw [if_pos hx0, Nat.zero_mod]; rfl)
      have h181 : ∀ lv6 lv7, RW (MA o Y z t (pr x n) 0 (.int (Int32.ofInt ((pr x n).length : Nat)))) y_M_print (xbk y_M_print 181) [.ref Y, .int a, .int b, .int (Int32.ofInt ((n ^ d : Nat) : Int)), .int (Int32.ofInt (d : Nat)), .int 0, lv6, lv7, xj] [] o6 := by
        intro lv6 lv7
        refine RW.go ?_
        refine RW.ps 1 rfl ?_
        refine RW.ifc (fun _ => ?_) (fun k3 => absurd (xi_eq.mpr rfl) k3)
        refine RW.weak (lv0 := [.ref Y, .int a, xj, xj, xj, xj, xj, xj, xj]) ⟨Or.inr rfl, Or.inr rfl, Or.inl rfl, Or.inl rfl, Or.inl rfl, Or.inl rfl, Or.inl rfl, Or.inl rfl, Or.inl rfl, trivial⟩ ?_
        refine RW.sk [] rfl ?_
        exact h184'
      refine RW.ps 2 rfl ?_
      refine RW.icm (fun _ => h181 _ _) (fun _ => ?_)
      refine RW.ps 1 rfl ?_
      refine RW.ifc (fun k3 => absurd rfl (xi_ne.mp k3)) (fun _ => ?_)
      refine RW.ps 1 rfl ?_
      refine RW.ifc (fun k3 => absurd (xi_gt.mp k3) (by decide)) (fun _ => ?_)
      refine RW.ps 1 rfl ?_
      refine RW.ifc (fun _ => h181 _ _) (fun k3 => absurd (xi_ne.mpr (by decide)) k3)
    intro m
    induction m with
    | zero =>
      intro X q o4 hXm hXT hX h4 m4
      have hX0 : X = 0 := by rw [Nat.pow_zero] at hXm; omega
      rcases hX with ⟨h1, -⟩ | ⟨h1, h2, h3⟩
      · exact absurd hX0 h1
      · subst h1
        subst h2
        exact hB o4 h3 h4 m4
    | succ m ih =>
      intro X q o4 hXm hXT hX h4 m4
      rcases hX with ⟨hX0, hXq⟩ | ⟨h1, h2, h3⟩
      rotate_left
      · subst h1
        subst h2
        exact hB o4 h3 h4 m4
      have hcut := dgl_cut hn2 hXT (show d ≤ 8192 by omega)
      have hXe : X / n ^ d * n ^ d + X % n ^ d = X := by rw [Nat.mul_comm]; exact Nat.div_add_mod _ _
      have hml := Nat.mod_lt X hG0
      have hXd : X / n ^ d ≤ X / 2 := Nat.div_le_div_left hG2 (by decide)
      have hql : q.length + (dgl n d X).length ≤ 8192 := by
        have h1 := congrArg List.length hXq
        rw [hcut, List.length_append, List.length_append] at h1
        omega
      refine RW.ps 1 rfl ?_
      refine RW.ifc (fun k3 => absurd (xi_eq.mp k3) (by decide)) (fun _ => ?_)
      refine RW.ps 1 rfl ?_
      refine RW.gf h4.y h4.f3 ?_
      refine RW.ps 1 rfl ?_
      refine RW.cq rfl rfl rfl rfl rfl (c_divideSmall m4 (by decide) (iu (u := n ^ d) (by omega)) hG0 (by omega)) ?_
      intro v o5 ⟨hv, f5, m5⟩
      subst hv
      have h5 := h4.scr f5 (by omega) (by omega)
      generalize hX' : X / n ^ d = X' at *
      generalize hMM : X % n ^ d = M0 at *
      refine RW.ps 2 rfl ?_
      refine RW.gf h5.y h5.f3 ?_
      refine RW.ps 1 rfl ?_
      refine RW.ia m5.1 i0n (by decide) ?_
      rw [m5.2.2.2.1]
      -- the group is out
      have h181 : ∀ q' o6 lv6 lv7, q' = q ++ dgl n d X → MS o o6 Y z t q'.reverse 0 → Mn o6 (Y + 3) 1200 X' → RW (MA o Y z t (pr x n) 0 (.int (Int32.ofInt ((pr x n).length : Nat)))) y_M_print (xbk y_M_print 181) [.ref Y, .int a, .int b, .int (Int32.ofInt ((n ^ d : Nat) : Int)), .int (Int32.ofInt (d : Nat)), .int (sg (decide (X' ≠ 0))), lv6, lv7, xj] [] o6 := by
        intro q' o6 lv6 lv7 hq' h6 m6
        refine RW.go ?_
        by_cases hc : X' ≠ 0
        · rw [decide_eq_true hc]
          refine RW.weak (lv0 := [.ref Y, .int a, .int b, .int (Int32.ofInt ((n ^ d : Nat) : Int)), .int (Int32.ofInt (d : Nat)), .int 1, xj, xj, xj]) ⟨Or.inr rfl, Or.inr rfl, Or.inr rfl, Or.inr rfl, Or.inr rfl, Or.inr rfl, Or.inl rfl, Or.inl rfl, Or.inl rfl, trivial⟩ ?_
          refine RW.sk [] rfl ?_
          refine ih X' q' o6 ?_ (by omega) (Or.inl ⟨hc, ?_⟩) h6 m6
          · rw [Nat.pow_succ] at hXm; omega
          · rw [hq', List.append_assoc, ← hcut]; exact hXq
        · rw [decide_eq_false hc]
          have hX0' : X' = 0 := Classical.not_not.mp hc
          refine RW.ps 1 rfl ?_
          refine RW.ifc (fun _ => ?_) (fun k3 => absurd (xi_eq.mpr rfl) k3)
          refine RW.weak (lv0 := [.ref Y, .int a, xj, xj, xj, xj, xj, xj, xj]) ⟨Or.inr rfl, Or.inr rfl, Or.inl rfl, Or.inl rfl, Or.inl rfl, Or.inl rfl, Or.inl rfl, Or.inl rfl, Or.inl rfl, trivial⟩ ?_
          refine RW.sk [] rfl ?_
          refine h184 o6 q' h6 ?_
          rw [← hXq, hcut, hX0', dgl_0, List.append_nil]; exact hq'
      have inner : ∀ (e k : Nat) (kw : Int32) M q' o6, k + e = d → kw.toInt = (k : Int) → M < n ^ e → M < 32768 → q' ++ dgl n e (X' * n ^ e + M) = q ++ dgl n d X → (k = 0 → X' * n ^ e + M ≠ 0) → MS o o6 Y z t q'.reverse 0 → Mn o6 (Y + 3) 1200 X' → RW (MA o Y z t (pr x n) 0 (.int (Int32.ofInt ((pr x n).length : Nat)))) y_M_print (xbk y_M_print 110) [.ref Y, .int a, .int b, .int (Int32.ofInt ((n ^ d : Nat) : Int)), .int (Int32.ofInt (d : Nat)), .int (sg (decide (X' ≠ 0))), .int (Int32.ofInt (M : Nat)), .int kw, xj] [] o6 := by
        intro e
        induction e with
        | zero =>
          intro k kw M q' o6 hk hkw hM hM2 hq' hk0 h6 m6
          rw [dgl, List.append_nil] at hq'
          refine RW.ps 2 rfl ?_
          refine RW.icm (fun _ => h181 q' o6 _ _ hq' h6 m6) (fun k3 => ?_)
          rw [xi_ge, iu (by omega), hkw] at k3; omega
        | succ e ih2 =>
          intro k kw M q' o6 hk hkw hM hM2 hq' hk0 h6 m6
          have hbm : 0 < n ^ e := Nat.pow_pos hnpos
          have e1 : X' * n ^ (e + 1) = n * (X' * n ^ e) := by rw [Nat.pow_succ]; ac_rfl
          refine RW.ps 2 rfl ?_
          refine RW.icm (fun k3 => ?_) (fun _ => ?_)
          · rw [xi_ge, iu (by omega), hkw] at k3; omega
          have hsay : X' * n ^ (e + 1) + M ≠ 0 → RW (MA o Y z t (pr x n) 0 (.int (Int32.ofInt ((pr x n).length : Nat)))) y_M_print (xbk y_M_print 139) [.ref Y, .int a, .int b, .int (Int32.ofInt ((n ^ d : Nat) : Int)), .int (Int32.ofInt (d : Nat)), .int (sg (decide (X' ≠ 0))), .int (Int32.ofInt (M : Nat)), .int kw, xj] [] o6 := by
            intro hV
            rw [dgl, if_neg hV] at hq'
            have e2 : (X' * n ^ (e + 1) + M) % n = M % n := by rw [e1, Nat.mul_add_mod]
            have e3 : (X' * n ^ (e + 1) + M) / n = X' * n ^ e + M / n := by rw [e1, Nat.mul_add_div hnpos]
            rw [e2, e3] at hq'
            have hln : q'.length < 8193 := by
              have := congrArg List.length hq'
              rw [List.length_append, List.length_append, List.length_cons] at this
              omega
            refine h139 M k kw _ q' o6 hM2 hkw (by omega) hln h6 (fun o7 h7 f7 => ?_)
            refine ih2 (k + 1) (kw + 1) (M / n) (q' ++ [chr (M % n)]) o7 (by omega) (i_succ hkw (by omega)) ?_ (Nat.lt_of_le_of_lt (Nat.div_le_self _ _) hM2) ?_ (fun g => by omega) h7 (m6.fr2 f7 (by omega) (by omega))
            · rw [Nat.div_lt_iff_lt_mul hnpos, ← Nat.pow_succ]; exact hM
            · rw [List.append_assoc]; exact hq'
          refine RW.ps 1 rfl ?_
          refine RW.ifc (fun k3 => ?_) (fun k3 => ?_)
          · have hc := of_decide_eq_true (sg_boolne.mp k3)
            exact hsay (by have := Nat.mul_pos (Nat.pos_of_ne_zero hc) (Nat.pow_pos (n := e + 1) hnpos); omega)
          have hc : X' = 0 := by
            rcases Nat.eq_zero_or_pos X' with g | g
            · exact g
            · exact absurd (sg_boolne.mpr (decide_eq_true (by omega))) k3
          refine RW.ps 1 rfl ?_
          refine RW.ifc (fun k4 => ?_) (fun k4 => ?_)
          · rw [xi_gt, iu (by omega), i0] at k4
            exact hsay (by omega)
          rw [xi_gt, iu (by omega), i0] at k4
          have hM0 : M = 0 := by omega
          have hV : X' * n ^ (e + 1) + M = 0 := by rw [hc, Nat.zero_mul, hM0]
          have hk1 : k ≠ 0 := fun g => hk0 g hV
          rw [hV, dgl_0, List.append_nil] at hq'
          refine RW.ps 1 rfl ?_
          refine RW.ifc (fun _ => h181 q' o6 _ _ hq' h6 m6) (fun k5 => ?_)
          rw [xi_ne, hkw, i0] at k5; omega
      have h105 : ∀ cc : Bool, cc = decide (X' ≠ 0) → RW (MA o Y z t (pr x n) 0 (.int (Int32.ofInt ((pr x n).length : Nat)))) y_M_print (xbk y_M_print 105) [.ref Y, .int a, .int b, .int (Int32.ofInt ((n ^ d : Nat) : Int)), .int (Int32.ofInt (d : Nat)), xj, .int (Int32.ofInt (M0 : Nat)), xj, xj] [.int (sg cc)] o5 := by
        intro cc hcc
        subst hcc
        refine RW.ps 3 rfl ?_
        refine RW.weak (lv0 := [.ref Y, .int a, .int b, .int (Int32.ofInt ((n ^ d : Nat) : Int)), .int (Int32.ofInt (d : Nat)), .int (sg (decide (X' ≠ 0))), .int (Int32.ofInt (M0 : Nat)), .int 0, xj]) ⟨Or.inr rfl, Or.inr rfl, Or.inr rfl, Or.inr rfl, Or.inr rfl, Or.inr rfl, Or.inr rfl, Or.inr rfl, Or.inl rfl, trivial⟩ ?_
        refine RW.sk [] rfl ?_
        refine inner d 0 0 M0 q o5 (Nat.zero_add _) rfl hml (by omega) ?_ (fun _ => ?_) h5 m5
        · rw [hXe]
        · rw [hXe]; exact hX0
      refine RW.ifc (fun k3 => ?_) (fun k3 => ?_)
      · rw [xi_le, iu (by have := m5.2.1; omega), i0] at k3
        refine RW.ps 1 rfl ?_
        refine RW.weak (lv0 := [.ref Y, .int a, .int b, .int (Int32.ofInt ((n ^ d : Nat) : Int)), .int (Int32.ofInt (d : Nat)), xj, .int (Int32.ofInt (M0 : Nat)), xj, xj]) ⟨Or.inr rfl, Or.inr rfl, Or.inr rfl, Or.inr rfl, Or.inr rfl, Or.inl rfl, Or.inr rfl, Or.inl rfl, Or.inl rfl, trivial⟩ ?_
        refine RW.sk [.int (sg false)] rfl ?_
        exact h105 false (decide_eq_false (fun g => g (n16_zero.mp (by omega)))).symm
      · rw [xi_le, iu (by have := m5.2.1; omega), i0] at k3
        refine RW.ps 1 rfl ?_
        refine RW.go ?_
        refine RW.weak (lv0 := [.ref Y, .int a, .int b, .int (Int32.ofInt ((n ^ d : Nat) : Int)), .int (Int32.ofInt (d : Nat)), xj, .int (Int32.ofInt (M0 : Nat)), xj, xj]) ⟨Or.inr rfl, Or.inr rfl, Or.inr rfl, Or.inr rfl, Or.inr rfl, Or.inl rfl, Or.inr rfl, Or.inl rfl, Or.inl rfl, trivial⟩ ?_
        refine RW.sk [.int (sg true)] rfl ?_
        have hne : X' ≠ 0 := fun g => by rw [n16_zero.mpr g] at k3; omega
        exact h105 true (decide_eq_true hne).symm
  -- the size of a group
  have h55 : ∀ e d, d + e = 15 → 0 < d → n ^ d < 32768 → RW (MA o Y z t (pr x n) 0 (.int (Int32.ofInt ((pr x n).length : Nat)))) y_M_print (xbk y_M_print 55) [.ref Y, .int a, .int b, .int (Int32.ofInt ((n ^ d : Nat) : Int)), .int (Int32.ofInt (d : Nat)), xj, xj, xj, xj] [] o3 := by
    intro e
    induction e with
    | zero =>
      intro d hd hd0 hG
      have h1 : 2 ^ 15 ≤ n ^ 15 := Nat.pow_le_pow_left hn2 15
      rw [show d = 15 by omega] at hG
      omega
    | succ e ih =>
      intro d hd hd0 hG
      have hGn : n ^ (d + 1) = n ^ d * n := Nat.pow_succ ..
      have hGb : n ^ d * n ≤ 32768 * 36 := Nat.mul_le_mul (Nat.le_of_lt hG) hn3
      have hprod : Int32.ofInt ((n ^ d : Nat) : Int) * b = Int32.ofInt ((n ^ (d + 1) : Nat) : Int) := by
        rw [hbw, ii_mul, hGn, ← Int.natCast_mul]
      refine RW.ps 3 rfl ?_
      refine RW.top (congrArg Value.int (hprod)) ?_
      refine RW.ps 1 rfl ?_
      refine RW.icm (fun k3 => ?_) (fun k3 => ?_)
      · refine RW.ps 2 rfl ?_
        refine RW.weak (lv0 := [.ref Y, .int a, .int b, .int (Int32.ofInt ((n ^ d : Nat) : Int)), .int (Int32.ofInt (d : Nat)), .int 1, xj, xj, xj]) ⟨Or.inr rfl, Or.inr rfl, Or.inr rfl, Or.inr rfl, Or.inr rfl, Or.inr rfl, Or.inl rfl, Or.inl rfl, Or.inl rfl, trivial⟩ ?_
        refine RW.sk [] rfl ?_
        refine h76 d hd0 (by omega) hG 8192 x.natAbs [] o3 ta ta ?_ h3 m3
        by_cases hz0 : x = 0
        · exact Or.inr ⟨by omega, rfl, hz0⟩
        · exact Or.inl ⟨by omega, by rw [if_neg hz0]; rfl⟩
      · rw [xi_ge, iu (by omega), show (32768 : Int32).toInt = 32768 from rfl] at k3
        refine RW.ps 5 rfl ?_
        refine RW.go ?_
        refine RW.weak (lv0 := [.ref Y, .int a, .int b, .int (Int32.ofInt ((n ^ (d + 1) : Nat) : Int)), .int (Int32.ofInt ((d + 1 : Nat) : Int)), xj, xj, xj, xj]) ⟨Or.inr rfl, Or.inr rfl, Or.inr rfl, Or.inr (congrArg Value.int hprod.symm), Or.inr (congrArg Value.int (is1 d).symm), Or.inl rfl, Or.inl rfl, Or.inl rfl, Or.inl rfl, trivial⟩ ?_
        refine RW.sk [] rfl ?_
        exact ih (d + 1) (by omega) (by omega) (by omega)
  refine RW.ps 4 rfl ?_
  refine RW.weak (lv0 := [.ref Y, .int a, .int b, .int (Int32.ofInt ((n ^ 1 : Nat) : Int)), .int (Int32.ofInt ((1 : Nat) : Int)), xj, xj, xj, xj]) ⟨Or.inr rfl, Or.inr rfl, Or.inr rfl, Or.inr (by rw [Nat.pow_one, ← hbw]), Or.inr rfl, Or.inl rfl, Or.inl rfl, Or.inl rfl, Or.inl rfl, trivial⟩ ?_
  refine RW.sk [] rfl ?_
  exact h55 14 1 rfl (by decide) (by rw [Nat.pow_one]; omega)
theorem c_mout (h : MI o Y z t p c) {i : Int32} : Ct y_M_out [.ref Y, .int i] o (MA o Y z t p 0 (.int (chAt p i))) := by
  have h := MS.start h
  have hi1 := i.le_toInt
  have hi2 := i.toInt_lt
  refine RW.ps 2 rfl ?_
  refine RW.pf h.y rfl rfl ?_
  have h1 : MS o (xpf o Y 0 (.int 0)) Y z t p 0 := h.code 0
  generalize xpf o Y 0 (.int 0) = o1 at h1 ⊢
  have hp := h1.pp
  have hpl := hp.2.1
  have h17 : ¬ (0 ≤ i.toInt ∧ i.toInt < (p.length : Int)) → ∀ lv, RW (MA o Y z t p 0 (.int (chAt p i))) y_M_out (xbk y_M_out 17) lv [] o1 := by
    intro hn lv
    have e : chAt p i = -1 := by unfold chAt; rw [if_neg hn]
    rw [e]
    refine RW.ps 1 rfl ?_
    refine RW.go ?_
    exact RW.re rfl rfl ⟨h1.1, h1.2, rfl⟩
  refine RW.ps 1 rfl ?_
  refine RW.ifc (fun k => ?_) (fun k => ?_)
  · rw [xi_lt, i0] at k
    exact h17 (by omega) _
  rw [xi_lt, i0] at k
  refine RW.ps 2 rfl ?_
  refine RW.gf h1.y hp.1 ?_
  refine RW.icm (fun k2 => ?_) (fun k2 => ?_)
  · rw [xi_lt, iu (by omega)] at k2
    refine RW.ps 1 rfl ?_
    refine RW.gf h1.y h1.f15 ?_
    refine RW.ps 1 rfl ?_
    refine RW.ia h1.k13 (k := i.toInt.toNat) (by omega) (by omega) ?_
    rw [hp.2.2 i.toInt.toNat (by omega), rev_get (by omega)]
    have e : chAt p i = p.getD (p.length - 1 - i.toInt.toNat) 0 := by unfold chAt; rw [if_pos (by omega)]
    rw [← e]
    exact RW.re rfl rfl ⟨h1.1, h1.2, rfl⟩
  · rw [xi_lt, iu (by omega)] at k2
    exact h17 (by omega) _
theorem c_mturn (h : MI o Y z t p c) : Ct y_M_turn [.ref Y] o (MA o Y z (trn p) p 0 (.int (Int32.ofInt ((trn p).length : Nat)))) := by
  have h := MS.start h
  have htl : (trn p).length = min p.length 3000 := by unfold trn; rw [List.length_take, List.length_reverse]; omega
  refine RW.ps 2 rfl ?_
  refine RW.pf h.y rfl rfl ?_
  have h1 : MS o (xpf o Y 0 (.int 0)) Y z t p 0 := h.code 0
  generalize xpf o Y 0 (.int 0) = o1 at h1 ⊢
  have hp := h1.pp
  have hpl := hp.2.1
  have hget : ∀ i, i < min p.length 3000 → (trn p).getD i 0 = p.reverse.getD i 0 := by
    intro i hi
    unfold trn
    rw [List.getD_eq_getElem?_getD, List.getD_eq_getElem?_getD, List.getElem?_take_of_lt (by omega)]
  have h26 : RW (MA o Y z (trn p) p 0 (.int (Int32.ofInt ((trn p).length : Nat)))) y_M_turn (xbk y_M_turn 26) [.ref Y, xj] [.int (Int32.ofInt ((min p.length 3000 : Nat) : Int)), .ref Y] o1 := by
    refine RW.pf h1.y rfl rfl ?_
    have a14 : xf (xpf o1 Y 14 (.int (Int32.ofInt ((min p.length 3000 : Nat) : Int)))) Y 14 = .int (Int32.ofInt ((min p.length 3000 : Nat) : Int)) := xpf_same
    have aj : ∀ j, j ≠ 14 → xf (xpf o1 Y 14 (.int (Int32.ofInt ((min p.length 3000 : Nat) : Int)))) Y j = xf o1 Y j := fun j hj => xpf_ne (fun _ => hj)
    have af : Fr [(Y, 1)] o1 (xpf o1 Y 14 (.int (Int32.ofInt ((min p.length 3000 : Nat) : Int)))) := Fr.pf
    generalize xpf o1 Y 14 (.int (Int32.ofInt ((min p.length 3000 : Nat) : Int))) = o2 at a14 aj af ⊢
    have loop : ∀ e k (kw : Int32) w, k + e = min p.length 3000 → kw.toInt = (k : Int) → Fr [(Y + 12, 1)] o2 w → (∀ i, i < k → xi w (Y + 12) i = p.reverse.getD i 0) → RW (MA o Y z (trn p) p 0 (.int (Int32.ofInt ((trn p).length : Nat)))) y_M_turn (xbk y_M_turn 31) [.ref Y, .int kw] [] w := by
      intro e
      induction e with
      | zero =>
        intro k kw w hk hkw hf hi
        have oY : Out [(Y + 12, 1)] Y := Out.one (by omega)
        have hy : xk w Y = (3, 9) := hf.k.trans (af.k.trans h1.y)
        have w14 := (hf.f oY 14).trans a14
        refine RW.ps 2 rfl ?_
        refine RW.gf hy w14 ?_
        refine RW.icm (fun _ => ?_) (fun k3 => ?_)
        rotate_left
        · rw [xi_ge, iu (by omega), hkw] at k3; omega
        refine RW.ps 1 rfl ?_
        refine RW.gf hy w14 ?_
        have hT : Tm w Y (trn p) := ⟨by rw [htl]; exact w14, by omega, fun i hi' => by rw [hget i (by omega)]; exact hi i (by omega)⟩
        have h2 := h1.txt (o' := w) ((af.up (fun b hb => by simp only [Out, and_true] at hb ⊢; omega)).trans (hf.up (fun b hb => by simp only [Out, and_true] at hb ⊢; omega))) (fun j hj => (hf.f oY j).trans (aj j hj)) hT
        rw [← htl]
        exact RW.re rfl rfl ⟨h2.1, h2.2, rfl⟩
      | succ e ih =>
        intro k kw w hk hkw hf hi
        have oY : Out [(Y + 12, 1)] Y := Out.one (by omega)
        have o13 : Out [(Y + 12, 1)] (Y + 13) := Out.one (by omega)
        have o13' : Out [(Y, 1)] (Y + 13) := Out.one (by omega)
        have hy : xk w Y = (3, 9) := hf.k.trans (af.k.trans h1.y)
        have w14 := (hf.f oY 14).trans a14
        have w13 : xf w Y 13 = .ref (Y + 12) := (hf.f oY 13).trans ((aj 13 (by decide)).trans h1.f13)
        have w15 : xf w Y 15 = .ref (Y + 13) := (hf.f oY 15).trans ((aj 15 (by decide)).trans h1.f15)
        have k13 : xk w (Y + 13) = (1, 8200) := hf.k.trans (af.k.trans h1.k13)
        have k12 : xk w (Y + 12) = (1, 3000) := hf.k.trans (af.k.trans h1.k12)
        have e1 : xi w (Y + 13) k = p.reverse.getD k 0 := by rw [hf.i o13, af.i o13']; exact hp.2.2 k (by omega)
        refine RW.ps 2 rfl ?_
        refine RW.gf hy w14 ?_
        refine RW.icm (fun k3 => ?_) (fun _ => ?_)
        · rw [xi_ge, iu (by omega), hkw] at k3; omega
        refine RW.ps 1 rfl ?_
        refine RW.gf hy w13 ?_
        refine RW.ps 2 rfl ?_
        refine RW.gf hy w15 ?_
        refine RW.ps 1 rfl ?_
        refine RW.ia k13 hkw (by omega) ?_
        rw [e1]
        refine RW.ist (k := k) k12 hkw (by omega) ?_
        refine RW.ps 1 rfl ?_
        refine RW.go ?_
        refine ih (k + 1) (kw + 1) _ (by omega) (i_succ hkw (by omega)) (hf.trans Fr.pi) (fun i hik => ?_)
        by_cases hik2 : i = k
        · subst hik2; exact xpi_same
        · rw [xpi_ne (fun _ => hik2)]; exact hi i (by omega)
    refine RW.ps 2 rfl ?_
    refine RW.weak (lv0 := [.ref Y, .int 0]) ⟨Or.inr rfl, Or.inr rfl, trivial⟩ ?_
    refine RW.sk [] rfl ?_
    exact loop _ 0 0 o2 (Nat.zero_add _) rfl (Fr.refl _ _) (fun i hi => absurd hi (Nat.not_lt_zero i))
  refine RW.ps 2 rfl ?_
  refine RW.gf h1.y hp.1 ?_
  refine RW.ps 1 rfl ?_
  refine RW.icm (fun k => ?_) (fun k => ?_)
  · rw [xi_ge, iu (by omega), show (3000 : Int32).toInt = 3000 from rfl] at k
    refine RW.ps 1 rfl ?_
    rw [show min p.length 3000 = 3000 by omega] at h26
    exact h26
  · rw [xi_ge, iu (by omega), show (3000 : Int32).toInt = 3000 from rfl] at k
    refine RW.ps 1 rfl ?_
    refine RW.gf h1.y hp.1 ?_
    refine RW.go ?_
    rw [show min p.length 3000 = p.length by omega] at h26
    exact h26
end C12
