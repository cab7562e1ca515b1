/-! THE REFERENCE'S CALLS: set, move, keepIf, addSigned, reckon. -/
section C2
variable {o0 o o' : xO} {Y c : Nat} {z : Nat → Int} {t p : List Int32}
theorem MS.mvp {sp : Vo} (h : MS o0 o Y sp.2 t p sp.1) : MV o0 Y sp t p (.inl none) o := ⟨h.1, h.2, rfl⟩
theorem c_mset (h : MI o Y z t p c) {r : Int32} {v : Int64} : Ct y_M_set [.ref Y, .int r, .long v] o (MV o Y (s_set z r v) t p) := by
  have h := MS.start h
  have v1 := v.le_toInt
  have v2 := v.toInt_lt
  have hbad : ¬ (okr r) → RW (MV o Y (s_set z r v) t p) y_M_set (xbk y_M_set 12) [.ref Y] [.ref Y] o := by
    intro hno
    refine RW.ps 1 rfl ?_
    refine RW.pf h.y rfl rfl ?_
    have h1 : MS o (xpf o Y 0 (.int 1)) Y z t p 1 := h.code 1
    refine RW.ps 1 rfl ?_
    refine RW.gf h1.y h1.cd ?_
    refine RW.ifc (fun k => absurd (xi_le.mp k) (by decide)) (fun _ => ?_)
    exact RW.re rfl rfl (h1.mv (if_neg hno))
  refine RW.ps 2 rfl ?_
  by_cases hr : ¬ okr r
  · refine RW.cp rfl rfl rfl rfl rfl (c_isRegister r) ?_
    rw [if_neg hr]
    refine RW.ifc (fun _ => ?_) (fun k => absurd (xi_eq.mpr rfl) k)
    refine RW.weak (lv0 := [.ref Y]) ⟨Or.inr rfl, trivial⟩ ?_
    exact hbad hr
  have hr := Classical.not_not.mp hr
  refine RW.cp rfl rfl rfl rfl rfl (c_isRegister r) ?_
  rw [if_pos hr]
  refine RW.ifc (fun k => absurd (xi_eq.mp k) (by decide)) (fun _ => ?_)
  refine RW.ps 1 rfl ?_
  refine RW.go ?_
  refine RW.pf h.y rfl rfl ?_
  have h1 : MS o (xpf o Y 0 (.int 0)) Y z t p 0 := h.code 0
  refine RW.ps 1 rfl ?_
  refine RW.gf h1.y h1.cd ?_
  refine RW.ifc (fun _ => ?_) (fun k => absurd (xi_le.mpr (by decide)) k)
  generalize xpf o Y 0 (.int 0) = o1 at h1 ⊢
  have hsp : s_set z r v = (0, upz z (rx r) v.toInt) := if_pos hr
  rw [hsp]
  have hM : v.toInt.natAbs < 2 ^ 64 := by omega
  have h36 : ∀ m : Int64, m = Int64.ofInt (v.toInt.natAbs : Int) → RW (MV o Y (0, upz z (rx r) v.toInt) t p) y_M_set (xbk y_M_set 36) [.ref Y, .int r, .long v, xj, xj, xj, xj] [.long m] o1 := by
    intro m hm
    subst hm
    have loop : ∀ (q k : Nat) (kw : Int32) w, k + q = 4 → kw.toInt = (k : Int) → Fr [(Y + 3, 1)] o1 w → xi w (Y + 3) 0 = Int32.ofInt ((4 : Nat) : Int) → (∀ j, j < k → xi w (Y + 3) (j + 1) = Int32.ofInt (d16 v.toInt.natAbs j : Nat)) → RW (MV o Y (0, upz z (rx r) v.toInt) t p) y_M_set (xbk y_M_set 48) [.ref Y, .int r, .long v, xj, .long (Int64.ofInt (v.toInt.natAbs : Int)), xj, .int kw] [] w := by
      intro q
      induction q with
      | zero =>
        intro k kw w hk hkw hf h0 hj
        have h2 := h1.scr hf (by omega) (by omega)
        have m2 : Mu w (Y + 3) 1200 4 v.toInt.natAbs := ⟨h2.k3, by decide, hM, h0, fun j hj4 => hj j (by omega)⟩
        refine RW.ps 2 rfl ?_
        refine RW.icm (fun _ => ?_) (fun k2 => ?_)
        rotate_left
        · rw [xi_ge, hkw, show (4 : Int32).toInt = 4 from rfl] at k2; omega
        refine RW.ps 1 rfl ?_
        refine RW.gf h2.y h2.f3 ?_
        refine RW.cv rfl rfl rfl rfl rfl (c_cutn m2 (by decide)) ?_
        intro o3 ⟨f3, m3⟩
        have h3 := h2.scr f3 (by omega) (by omega)
        have hT : v.toInt.natAbs < TOP := Nat.lt_of_le_of_lt (show v.toInt.natAbs ≤ 2 ^ 64 by omega) (Nat.pow_lt_pow_right (by decide) (by decide))
        refine RW.weak (lv0 := [.ref Y, .int r, .long v, xj]) ⟨Or.inr rfl, Or.inr rfl, Or.inr rfl, Or.inl rfl, trivial⟩ ?_
        refine RW.sk [] rfl ?_
        refine RW.ps 3 rfl ?_
        refine RW.gf h3.y h3.f3 ?_
        refine RW.ps 3 rfl ?_
        have h106 : ∀ s : Int32, (v.toInt ≠ 0 → s = Int32.ofInt v.toInt.sign) → RW (MV o Y (0, upz z (rx r) v.toInt) t p) y_M_set (xbk y_M_set 106) [.ref Y] [.int s, .ref (Y + 3), .int r, .ref Y] o3 := by
          intro s hs
          refine RW.cv rfl rfl (xrc_v rfl rfl h3.y) rfl rfl (c_keep h3 hr.ix hr.lt m3 (by decide) (by omega) (by omega) hT hs) ?_
          intro o4 h4
          exact RW.re rfl rfl (h4.mv rfl)
        refine RW.ifc (fun k2 => ?_) (fun k2 => ?_)
        · have k2 : 0 ≤ v.toInt := Int.not_lt.mp (fun z => by rw [xi_ge, i0] at k2; have := l_lt0.mpr z; rw [i0] at this; omega)
          refine RW.ps 1 rfl ?_
          refine RW.weak (lv0 := [.ref Y]) ⟨Or.inr rfl, trivial⟩ ?_
          refine RW.sk [.int 1, .ref (Y + 3), .int r, .ref Y] rfl ?_
          exact h106 1 (fun hv => by rw [Int.sign_eq_one_of_pos (by omega)]; rfl)
        · have k2 : v.toInt < 0 := l_lt0.mp (by rw [xi_ge, i0] at k2; rw [i0]; omega)
          refine RW.ps 1 rfl ?_
          refine RW.go ?_
          refine RW.weak (lv0 := [.ref Y]) ⟨Or.inr rfl, trivial⟩ ?_
          refine RW.sk [.int (-1), .ref (Y + 3), .int r, .ref Y] rfl ?_
          exact h106 (-1) (fun _ => by rw [Int.sign_eq_neg_one_of_neg k2]; rfl)
      | succ q ih =>
        intro k kw w hk hkw hf h0 hj
        have h2 := h1.scr hf (by omega) (by omega)
        refine RW.ps 2 rfl ?_
        refine RW.icm (fun k2 => ?_) (fun _ => ?_)
        · rw [xi_ge, hkw, show (4 : Int32).toInt = 4 from rfl] at k2; omega
        refine RW.ps 1 rfl ?_
        refine RW.gf h2.y h2.f3 ?_
        refine RW.ps 8 rfl ?_
        refine RW.top (congrArg Value.long (n_ushr (n := v.toInt.natAbs) (k := 16 * k) (y := 16 * kw) (i_mul rfl hkw (by omega)) (by omega) hM)) ?_
        refine RW.ps 3 rfl ?_
        refine RW.top (congrArg Value.int ((show (Int64.ofInt ((v.toInt.natAbs / 2 ^ (16 * k) : Nat) : Int) &&& 65535).toInt32 = Int32.ofInt (d16 v.toInt.natAbs k : Nat) by rw [li_low16, ← b16]; rfl))) ?_
        refine RW.ist h2.k3 (i_succ hkw (by omega)) (by omega) ?_
        refine RW.ps 1 rfl ?_
        refine RW.go ?_
        refine ih (k + 1) (kw + 1) _ (by omega) (i_succ hkw (by omega)) hf.pi1 ((xpi_ne (fun _ => by omega)).trans h0) (fun j hjk => ?_)
        by_cases hjk2 : j = k
        · subst hjk2; exact xpi_same
        · rw [xpi_ne (fun _ => by omega)]; exact hj j (by omega)
    refine RW.ps 2 rfl ?_
    refine RW.gf h1.y h1.f3 ?_
    refine RW.ps 2 rfl ?_
    refine RW.ist (k := 0) h1.k3 i0n (by omega) ?_
    refine RW.ps 2 rfl ?_
    refine RW.weak (lv0 := [.ref Y, .int r, .long v, xj, .long (Int64.ofInt (v.toInt.natAbs : Int)), xj, .int 0]) ⟨Or.inr rfl, Or.inr rfl, Or.inr rfl, Or.inl rfl, Or.inr rfl, Or.inl rfl, Or.inr rfl, trivial⟩ ?_
    refine RW.sk [] rfl ?_
    exact loop 4 0 0 _ rfl rfl Fr.pi xpi_same (fun j hj => absurd hj (Nat.not_lt_zero j))
  refine RW.weak (lv0 := [.ref Y, .int r, .long v, xj, xj, xj, xj]) ⟨Or.inr rfl, Or.inr rfl, Or.inr rfl, Or.inl rfl, Or.inl rfl, Or.inl rfl, Or.inl rfl, trivial⟩ ?_
  refine RW.sk [] rfl ?_
  refine RW.ps 3 rfl ?_
  refine RW.ifc (fun k2 => ?_) (fun k2 => ?_)
  · have k2 : 0 ≤ v.toInt := Int.not_lt.mp (fun z => by rw [xi_ge, i0] at k2; have := l_lt0.mpr z; rw [i0] at this; omega)
    refine RW.ps 1 rfl ?_
    exact h36 v (by rw [show (v.toInt.natAbs : Int) = v.toInt by omega, Int64.ofInt_toInt])
  · have k2 : v.toInt < 0 := l_lt0.mp (by rw [xi_ge, i0] at k2; rw [i0]; omega)
    refine RW.ps 2 rfl ?_
    refine RW.go ?_
    exact h36 (-v) (by rw [show (v.toInt.natAbs : Int) = -v.toInt by omega, Int64.ofInt_neg, Int64.ofInt_toInt])
theorem c_mmove (h : MI o Y z t p c) {r a : Int32} : Ct y_M_move [.ref Y, .int r, .int a] o (MV o Y (s_move z r a) t p) := by
  have h := MS.start h
  have hbad : ¬ (okr r ∧ okr a) → RW (MV o Y (s_move z r a) t p) y_M_move (xbk y_M_move 19) [.ref Y] [.ref Y] o := by
    intro hno
    refine RW.ps 1 rfl ?_
    refine RW.pf h.y rfl rfl ?_
    have h1 : MS o (xpf o Y 0 (.int 1)) Y z t p 1 := h.code 1
    refine RW.ps 1 rfl ?_
    refine RW.gf h1.y h1.cd ?_
    refine RW.ifc (fun _ => ?_) (fun k => absurd (xi_ne.mpr (by decide)) k)
    exact RW.re rfl rfl (h1.mv (if_neg hno))
  refine RW.ps 2 rfl ?_
  by_cases hr : ¬ okr r
  · refine RW.cp rfl rfl rfl rfl rfl (c_isRegister r) ?_
    rw [if_neg hr]
    refine RW.ifc (fun _ => ?_) (fun k => absurd (xi_eq.mpr rfl) k)
    refine RW.weak (lv0 := [.ref Y]) ⟨Or.inr rfl, trivial⟩ ?_
    exact hbad (fun k => hr k.1)
  have hr := Classical.not_not.mp hr
  refine RW.cp rfl rfl rfl rfl rfl (c_isRegister r) ?_
  rw [if_pos hr]
  refine RW.ifc (fun k => absurd (xi_eq.mp k) (by decide)) (fun _ => ?_)
  refine RW.ps 1 rfl ?_
  by_cases ha : ¬ okr a
  · refine RW.cp rfl rfl rfl rfl rfl (c_isRegister a) ?_
    rw [if_neg ha]
    refine RW.ifc (fun _ => ?_) (fun k => absurd (xi_eq.mpr rfl) k)
    refine RW.weak (lv0 := [.ref Y]) ⟨Or.inr rfl, trivial⟩ ?_
    exact hbad (fun k => ha k.2)
  have ha := Classical.not_not.mp ha
  refine RW.cp rfl rfl rfl rfl rfl (c_isRegister a) ?_
  rw [if_pos ha]
  refine RW.ifc (fun k => absurd (xi_eq.mp k) (by decide)) (fun _ => ?_)
  refine RW.ps 1 rfl ?_
  refine RW.go ?_
  refine RW.pf h.y rfl rfl ?_
  have h1 : MS o (xpf o Y 0 (.int 0)) Y z t p 0 := h.code 0
  refine RW.ps 1 rfl ?_
  refine RW.gf h1.y h1.cd ?_
  refine RW.ifc (fun k => absurd rfl (xi_ne.mp k)) (fun _ => ?_)
  generalize xpf o Y 0 (.int 0) = o1 at h1 ⊢
  refine RW.ps 3 rfl ?_
  refine RW.gf h1.y h1.f3 ?_
  refine RW.cv rfl rfl (xrc_v rfl rfl h1.y) rfl rfl (c_mload h1 ha 3 (by decide)) ?_
  intro o2 ⟨h2, m2, f2⟩
  refine RW.ps 3 rfl ?_
  refine RW.gf h2.y h2.f3 ?_
  refine RW.ps 1 rfl ?_
  refine RW.gf h2.y h2.f2 ?_
  refine RW.ps 1 rfl ?_
  refine RW.ia h2.k2 ha.ix ha.lt ?_
  rw [h2.sv ha]
  refine RW.cv rfl rfl (xrc_v rfl rfl h2.y) rfl rfl (c_keep h2 hr.ix hr.lt m2 (by decide) (by omega) (by omega) (h2.top ha) (fun _ => rfl)) ?_
  intro o3 h3
  exact RW.re rfl rfl (h3.mv (if_pos ⟨hr, ha⟩))
theorem c_keepIf (h : MS o0 o Y z t p c) {r sw : Int32} {a L : Nat} {v : Int} (hr : okr r) (ha : Mn o a L v.natAbs) (hL : L ≤ 9000) (haY : a ≠ Y + 1) (haY2 : a ≠ Y + 2) (haY0 : a ≠ Y) (hs : v ≠ 0 → sw = Int32.ofInt v.sign) : Cv y_M_keepIf [.ref Y, .int r, .ref a, .int sw] o (fun o' => MS o0 o' Y (keepV z r v).2 t p (keepV z r v).1) := by
  have haL := ha.2.1
  refine RW.ps 3 rfl ?_
  refine RW.ia ha.1 i0n (by omega) ?_
  rw [ha.2.2.2.1]
  refine RW.ps 1 rfl ?_
  refine RW.icm (fun k => ?_) (fun k => ?_)
  · rw [xi_le, iu (by omega), show (512 : Int32).toInt = 512 from rfl] at k
    have hT : v.natAbs < TOP := top_n16.mp (by omega)
    refine RW.ps 1 rfl ?_
    refine RW.pf h.y rfl rfl ?_
    have h1 : MS o0 (xpf o Y 0 (.int 0)) Y z t p 0 := h.code 0
    have a1 : Mn (xpf o Y 0 (.int 0)) a L v.natAbs := ha
    refine RW.ps 1 rfl ?_
    refine RW.gf h1.y h1.cd ?_
    refine RW.ifc (fun k => absurd rfl (xi_ne.mp k)) (fun _ => ?_)
    generalize xpf o Y 0 (.int 0) = o1 at h1 a1 ⊢
    refine RW.ps 4 rfl ?_
    refine RW.cv rfl rfl (xrc_v rfl rfl h1.y) rfl rfl (c_keep h1 hr.ix hr.lt a1 hL haY haY2 hT hs) ?_
    intro o2 h2
    have e : keepV z r v = (0, upz z (rx r) v) := if_pos hT
    rw [e]
    exact RW.re rfl rfl ⟨rfl, h2⟩
  · rw [xi_le, iu (by omega), show (512 : Int32).toInt = 512 from rfl] at k
    have hT : ¬ v.natAbs < TOP := fun z => by have := top_n16.mpr z; omega
    refine RW.ps 1 rfl ?_
    refine RW.go ?_
    refine RW.pf h.y rfl rfl ?_
    have h1 : MS o0 (xpf o Y 0 (.int 2)) Y z t p 2 := h.code 2
    refine RW.ps 1 rfl ?_
    refine RW.gf h1.y h1.cd ?_
    refine RW.ifc (fun _ => ?_) (fun k => absurd (xi_ne.mpr (by decide)) k)
    have e : keepV z r v = (2, z) := if_neg hT
    rw [e]
    exact RW.re rfl rfl ⟨rfl, h1⟩
theorem c_addSigned (h : MS o0 o Y z t p c) {sa sb : Int32} {x y : Int} (h3 : Mn o (Y + 3) 1200 x.natAbs) (h4 : Mn o (Y + 4) 1200 y.natAbs) (hx : n16 x.natAbs ≤ 512) (hy : n16 y.natAbs ≤ 512) (hsa : sa.toInt = x.sign) (hsb : sb.toInt = y.sign) :
    Cv y_M_addSigned [.ref Y, .int sa, .int sb] o (fun o' => MS o0 o' Y z t p c ∧ Mn o' (Y + 3) 1200 (x + y).natAbs ∧ ∃ s, xf o' Y 12 = .int s ∧ (x + y ≠ 0 → s = Int32.ofInt (x + y).sign)) := by
  have esa := i_of hsa
  have esb := i_of hsb
  have h100 : ∀ o2 s, MS o0 o2 Y z t p c → Mn o2 (Y + 3) 1200 (x + y).natAbs → xf o2 Y 12 = .int s → (x + y ≠ 0 → s = Int32.ofInt (x + y).sign) → ∀ lv, RW (fun r o' => r = .inl none ∧ (MS o0 o' Y z t p c ∧ Mn o' (Y + 3) 1200 (x + y).natAbs ∧ ∃ s, xf o' Y 12 = .int s ∧ (x + y ≠ 0 → s = Int32.ofInt (x + y).sign))) y_M_addSigned (xbk y_M_addSigned 100) lv [] o2 := fun o2 s g1 g2 g3 g4 lv => RW.re rfl rfl ⟨rfl, g1, g2, s, g3, g4⟩
  have h23 : (x = 0 ∨ y = 0 ∨ x.sign = y.sign) → ∀ s : Int32, (x + y ≠ 0 → s = Int32.ofInt (x + y).sign) → RW (fun r o' => r = .inl none ∧ (MS o0 o' Y z t p c ∧ Mn o' (Y + 3) 1200 (x + y).natAbs ∧ ∃ s, xf o' Y 12 = .int s ∧ (x + y ≠ 0 → s = Int32.ofInt (x + y).sign))) y_M_addSigned (xbk y_M_addSigned 23) [.ref Y, .int sa, .int sb] [.int s, .ref Y] o := by
    intro hc s hs
    have habs : (x + y).natAbs = x.natAbs + y.natAbs := by
      rcases hc with hc | hc | hc
      · omega
      · omega
      · rcases Int.lt_trichotomy x 0 with k | k | k
        · rw [Int.sign_eq_neg_one_of_neg k] at hc
          have := Int.sign_eq_neg_one_iff_neg.mp hc.symm; omega
        · omega
        · rw [Int.sign_eq_one_of_pos k] at hc
          have := Int.sign_eq_one_iff_pos.mp hc.symm; omega
    refine RW.pf h.y rfl rfl ?_
    have g1 := h.sgn (.int s)
    have g3 : Mn (xpf o Y 12 (.int s)) (Y + 3) 1200 x.natAbs := h3
    have g4 : Mn (xpf o Y 12 (.int s)) (Y + 4) 1200 y.natAbs := h4
    have g5 : xf (xpf o Y 12 (.int s)) Y 12 = .int s := xpf_same
    generalize xpf o Y 12 (.int s) = o1 at *
    refine RW.ps 1 rfl ?_
    refine RW.gf g1.y g1.f3 ?_
    refine RW.ps 1 rfl ?_
    refine RW.gf g1.y g1.f4 ?_
    refine RW.cv rfl rfl rfl rfl rfl (c_addTo g3 g4 (by decide) (by decide) (by omega) (by omega)) ?_
    intro o2 ⟨f2, m2⟩
    refine RW.go ?_
    rw [← habs] at m2
    exact h100 o2 s (g1.scr f2 (by omega) (by omega)) m2 (by rw [f2.f (Out.one (by omega))]; exact g5) hs _
  have h13 : (x = 0 ∨ y = 0 ∨ x.sign = y.sign) → RW (fun r o' => r = .inl none ∧ (MS o0 o' Y z t p c ∧ Mn o' (Y + 3) 1200 (x + y).natAbs ∧ ∃ s, xf o' Y 12 = .int s ∧ (x + y ≠ 0 → s = Int32.ofInt (x + y).sign))) y_M_addSigned (xbk y_M_addSigned 13) [.ref Y, .int sa, .int sb] [] o := by
    intro hc
    refine RW.ps 2 rfl ?_
    refine RW.ifc (fun k => ?_) (fun k => ?_)
    · rw [xi_eq, hsa, i0, sign_0] at k
      refine RW.ps 1 rfl ?_
      refine h23 hc sb (fun _ => ?_)
      rw [k, Int.zero_add]; exact esb
    · rw [xi_eq, hsa, i0, sign_0] at k
      refine RW.ps 1 rfl ?_
      refine RW.go ?_
      refine h23 hc sa (fun _ => ?_)
      rw [esa]; congr 1
      rcases hc with hc | hc | hc
      · exact absurd hc k
      · rw [hc, Int.add_zero]
      · rcases Int.lt_trichotomy x 0 with q | q | q
        · rw [Int.sign_eq_neg_one_of_neg q] at hc ⊢
          have := Int.sign_eq_neg_one_iff_neg.mp hc.symm
          rw [Int.sign_eq_neg_one_of_neg (by omega)]
        · exact absurd q k
        · rw [Int.sign_eq_one_of_pos q] at hc ⊢
          have := Int.sign_eq_one_iff_pos.mp hc.symm
          rw [Int.sign_eq_one_of_pos (by omega)]
  refine RW.ps 1 rfl ?_
  refine RW.ifc (fun k => ?_) (fun k => ?_)
  · rw [xi_eq, hsa, i0, sign_0] at k
    exact h13 (Or.inl k)
  rw [xi_eq, hsa, i0, sign_0] at k
  refine RW.ps 1 rfl ?_
  refine RW.ifc (fun k2 => ?_) (fun k2 => ?_)
  · rw [xi_eq, hsb, i0, sign_0] at k2
    exact h13 (Or.inr (Or.inl k2))
  rw [xi_eq, hsb, i0, sign_0] at k2
  refine RW.ps 2 rfl ?_
  refine RW.icm (fun k3 => ?_) (fun k3 => ?_)
  rotate_left
  · rw [xi_ne, hsa, hsb] at k3
    exact h13 (Or.inr (Or.inr (Classical.not_not.mp k3)))
  rw [xi_ne, hsa, hsb] at k3
  have hopp : (x < 0 ∧ 0 < y) ∨ (0 < x ∧ y < 0) := by
    rcases Int.lt_trichotomy x 0 with q | q | q
    · rcases Int.lt_trichotomy y 0 with q2 | q2 | q2
      · rw [Int.sign_eq_neg_one_of_neg q, Int.sign_eq_neg_one_of_neg q2] at k3; exact absurd rfl k3
      · exact absurd q2 k2
      · exact Or.inl ⟨q, q2⟩
    · exact absurd q k
    · rcases Int.lt_trichotomy y 0 with q2 | q2 | q2
      · exact Or.inr ⟨q, q2⟩
      · exact absurd q2 k2
      · rw [Int.sign_eq_one_of_pos q, Int.sign_eq_one_of_pos q2] at k3; exact absurd rfl k3
  refine RW.ps 1 rfl ?_
  refine RW.gf h.y h.f3 ?_
  refine RW.ps 1 rfl ?_
  refine RW.gf h.y h.f4 ?_
  refine RW.cp rfl rfl rfl rfl rfl (c_compareRows h3 h4 (by decide) (by decide)) ?_
  by_cases hlt : x.natAbs < y.natAbs
  · rw [cmpI_lt hlt]
    refine RW.ifc (fun _ => ?_) (fun k => absurd (xi_lt.mpr (by decide)) k)
    refine RW.ps 2 rfl ?_
    refine RW.pf h.y rfl rfl ?_
    have g1 := h.sgn (.int sb)
    have g3 : Mn (xpf o Y 12 (.int sb)) (Y + 3) 1200 x.natAbs := h3
    have g4 : Mn (xpf o Y 12 (.int sb)) (Y + 4) 1200 y.natAbs := h4
    have g5 : xf (xpf o Y 12 (.int sb)) Y 12 = .int sb := xpf_same
    generalize xpf o Y 12 (.int sb) = o1 at *
    refine RW.ps 1 rfl ?_
    refine RW.gf g1.y g1.f4 ?_
    refine RW.ps 1 rfl ?_
    refine RW.gf g1.y g1.f3 ?_
    refine RW.cv rfl rfl rfl rfl rfl (c_takeFrom g4 g3 (by decide) (by decide) (by omega) (by omega)) ?_
    intro o2 ⟨f2, m2⟩
    have g2 := g1.scr f2 (by omega) (by omega)
    refine RW.ps 1 rfl ?_
    refine RW.gf g2.y g2.f4 ?_
    refine RW.ps 1 rfl ?_
    refine RW.gf g2.y g2.f3 ?_
    have hn4 : n16 (y.natAbs - x.natAbs) ≤ 512 := Nat.le_trans (n16_mono (Nat.sub_le _ _)) hy
    refine RW.cv rfl rfl rfl rfl rfl (c_copy m2 (by decide) g2.k3 (by omega) (by omega)) ?_
    intro o3 ⟨f3, m3⟩
    have e : (x + y).natAbs = y.natAbs - x.natAbs := by omega
    have m3 : Mn o3 (Y + 3) 1200 (x + y).natAbs := by rw [e]; exact m3
    refine h100 o3 sb (g2.scr f3 (by omega) (by omega)) m3 (by rw [f3.f (Out.one (by omega)), f2.f (Out.one (by omega))]; exact g5) (fun _ => ?_) _
    rw [esb]; congr 1
    rcases hopp with q | q
    · rw [Int.sign_eq_one_of_pos q.2, Int.sign_eq_one_of_pos (by omega)]
    · rw [Int.sign_eq_neg_one_of_neg q.2, Int.sign_eq_neg_one_of_neg (by omega)]
  · have hnlt : ¬ xcd .lt (cmpI x.natAbs y.natAbs) 0 := fun k => by
      rw [xi_lt, i0] at k
      have := cmpI_lt0 (x := x.natAbs) (y := y.natAbs)
      rw [i0] at this; omega
    refine RW.ifc (fun k => absurd k hnlt) (fun _ => ?_)
    refine RW.ps 2 rfl ?_
    refine RW.pf h.y rfl rfl ?_
    have g1 := h.sgn (.int sa)
    have g3 : Mn (xpf o Y 12 (.int sa)) (Y + 3) 1200 x.natAbs := h3
    have g4 : Mn (xpf o Y 12 (.int sa)) (Y + 4) 1200 y.natAbs := h4
    have g5 : xf (xpf o Y 12 (.int sa)) Y 12 = .int sa := xpf_same
    generalize xpf o Y 12 (.int sa) = o1 at *
    refine RW.ps 1 rfl ?_
    refine RW.gf g1.y g1.f3 ?_
    refine RW.ps 1 rfl ?_
    refine RW.gf g1.y g1.f4 ?_
    refine RW.cv rfl rfl rfl rfl rfl (c_takeFrom g3 g4 (by decide) (by decide) (by omega) (by omega)) ?_
    intro o2 ⟨f2, m2⟩
    have e : (x + y).natAbs = x.natAbs - y.natAbs := by omega
    have m2 : Mn o2 (Y + 3) 1200 (x + y).natAbs := by rw [e]; exact m2
    refine RW.go ?_
    refine h100 o2 sa (g1.scr f2 (by omega) (by omega)) m2 (by rw [f2.f (Out.one (by omega))]; exact g5) (fun hne => ?_) _
    rw [esa]; congr 1
    rcases hopp with q | q
    · rw [Int.sign_eq_neg_one_of_neg q.1, Int.sign_eq_neg_one_of_neg (by omega)]
    · rw [Int.sign_eq_one_of_pos q.1, Int.sign_eq_one_of_pos (by omega)]
theorem c_mreckon (h : MI o Y z t p c) {r a b m : Int32} : Ct y_M_reckon [.ref Y, .int r, .int a, .int b, .int m] o (MV o Y (s_reckon z r a b m) t p) := by
  have h := MS.start h
  have hbad : ¬ (okr r ∧ okr a ∧ okr b ∧ 0 ≤ m.toInt ∧ m.toInt ≤ 2) → RW (MV o Y (s_reckon z r a b m) t p) y_M_reckon (xbk y_M_reckon 37) [.ref Y] [.ref Y] o := by
    intro hno
    refine RW.ps 1 rfl ?_
    refine RW.pf h.y rfl rfl ?_
    have h1 : MS o (xpf o Y 0 (.int 1)) Y z t p 1 := h.code 1
    refine RW.ps 1 rfl ?_
    refine RW.gf h1.y h1.cd ?_
    refine RW.ifc (fun k => absurd (xi_le.mp k) (by decide)) (fun _ => ?_)
    exact RW.re rfl rfl (h1.mv (if_neg hno))
  refine RW.ps 2 rfl ?_
  by_cases hr : ¬ okr r
  · refine RW.cp rfl rfl rfl rfl rfl (c_isRegister r) ?_
    rw [if_neg hr]
    refine RW.ifc (fun _ => ?_) (fun k => absurd (xi_eq.mpr rfl) k)
    refine RW.weak (lv0 := [.ref Y]) ⟨Or.inr rfl, trivial⟩ ?_
    exact hbad (fun k => hr k.1)
  have hr := Classical.not_not.mp hr
  refine RW.cp rfl rfl rfl rfl rfl (c_isRegister r) ?_
  rw [if_pos hr]
  refine RW.ifc (fun k => absurd (xi_eq.mp k) (by decide)) (fun _ => ?_)
  refine RW.ps 1 rfl ?_
  by_cases ha : ¬ okr a
  · refine RW.cp rfl rfl rfl rfl rfl (c_isRegister a) ?_
    rw [if_neg ha]
    refine RW.ifc (fun _ => ?_) (fun k => absurd (xi_eq.mpr rfl) k)
    refine RW.weak (lv0 := [.ref Y]) ⟨Or.inr rfl, trivial⟩ ?_
    exact hbad (fun k => ha k.2.1)
  have ha := Classical.not_not.mp ha
  refine RW.cp rfl rfl rfl rfl rfl (c_isRegister a) ?_
  rw [if_pos ha]
  refine RW.ifc (fun k => absurd (xi_eq.mp k) (by decide)) (fun _ => ?_)
  refine RW.ps 1 rfl ?_
  by_cases hb : ¬ okr b
  · refine RW.cp rfl rfl rfl rfl rfl (c_isRegister b) ?_
    rw [if_neg hb]
    refine RW.ifc (fun _ => ?_) (fun k => absurd (xi_eq.mpr rfl) k)
    refine RW.weak (lv0 := [.ref Y]) ⟨Or.inr rfl, trivial⟩ ?_
    exact hbad (fun k => hb k.2.2.1)
  have hb := Classical.not_not.mp hb
  refine RW.cp rfl rfl rfl rfl rfl (c_isRegister b) ?_
  rw [if_pos hb]
  refine RW.ifc (fun k => absurd (xi_eq.mp k) (by decide)) (fun _ => ?_)
  refine RW.ps 1 rfl ?_
  refine RW.ifc (fun k => ?_) (fun k => ?_)
  · rw [xi_lt, i0] at k
    refine RW.weak (lv0 := [.ref Y]) ⟨Or.inr rfl, trivial⟩ ?_
    exact hbad (fun q => by have := q.2.2.2.1; omega)
  rw [xi_lt, i0] at k
  refine RW.ps 2 rfl ?_
  refine RW.icm (fun k2 => ?_) (fun k2 => ?_)
  · rw [xi_gt, show (2 : Int32).toInt = 2 from rfl] at k2
    refine RW.weak (lv0 := [.ref Y]) ⟨Or.inr rfl, trivial⟩ ?_
    exact hbad (fun q => by have := q.2.2.2.2; omega)
  rw [xi_gt, show (2 : Int32).toInt = 2 from rfl] at k2
  refine RW.ps 1 rfl ?_
  refine RW.go ?_
  refine RW.pf h.y rfl rfl ?_
  have h1 : MS o (xpf o Y 0 (.int 0)) Y z t p 0 := h.code 0
  refine RW.ps 1 rfl ?_
  refine RW.gf h1.y h1.cd ?_
  refine RW.ifc (fun _ => ?_) (fun k => absurd (xi_le.mpr (by decide)) k)
  generalize xpf o Y 0 (.int 0) = o1 at h1 ⊢
  have hsp : s_reckon z r a b m = keepV z r (rk m (z (rx a)) (z (rx b))) := if_pos ⟨hr, ha, hb, by omega, by omega⟩
  rw [hsp]
  refine RW.weak (lv0 := [.ref Y, .int r, .int a, .int b, .int m]) ⟨Or.inr rfl, Or.inr rfl, Or.inr rfl, Or.inr rfl, Or.inr rfl, trivial⟩ ?_
  refine RW.sk [] rfl ?_
  refine RW.ps 3 rfl ?_
  refine RW.gf h1.y h1.f3 ?_
  refine RW.cv rfl rfl (xrc_v rfl rfl h1.y) rfl rfl (c_mload h1 ha 3 (by decide)) ?_
  intro o2 ⟨h2, m2, f2⟩
  refine RW.ps 3 rfl ?_
  refine RW.gf h2.y h2.f4 ?_
  refine RW.cv rfl rfl (xrc_v rfl rfl h2.y) rfl rfl (c_mload h2 hb 4 (by decide)) ?_
  intro o3 ⟨h3, m4, f3⟩
  have m3 := m2.fr1 f3 (by omega)
  have na := h3.n ha
  have nb := h3.n hb
  have sva := h3.sv ha
  have svb := h3.sv hb
  generalize hx : z (rx a) = x at *
  generalize hy : z (rx b) = y at *
  refine RW.weak (lv0 := [.ref Y, .int r, .int a, .int b, .int m]) ⟨Or.inr rfl, Or.inr rfl, Or.inr rfl, Or.inr rfl, Or.inr rfl, trivial⟩ ?_
  refine RW.sk [] rfl ?_
  refine RW.ps 2 rfl ?_
  refine RW.icm (fun k3 => ?_) (fun k3 => ?_)
  · rw [xi_ne, show (2 : Int32).toInt = 2 from rfl] at k3
    have h138 : ∀ (sb : Int32) (y2 : Int), y2.natAbs = y.natAbs → sb.toInt = y2.sign → x + y2 = rk m x y → RW (MV o Y (keepV z r (rk m x y)) t p) y_M_reckon (xbk y_M_reckon 138) [.ref Y, .int r, .int a, .int b, .int m] [.int sb, .int (Int32.ofInt x.sign), .ref Y] o3 := by
      intro sb y2 hy2 hsb hrk
      have m4' : Mn o3 (Y + 4) 1200 y2.natAbs := by rw [hy2]; exact m4
      refine RW.cv rfl rfl (xrc_v rfl rfl h3.y) rfl rfl (c_addSigned h3 m3 m4' na (by rw [hy2]; exact nb) (sign_i x) hsb) ?_
      intro o4 ⟨h4, m5, s, hs1, hs2⟩
      rw [hrk] at m5 hs2
      refine RW.ps 3 rfl ?_
      refine RW.gf h4.y h4.f3 ?_
      refine RW.ps 1 rfl ?_
      refine RW.gf h4.y hs1 ?_
      refine RW.cv rfl rfl (xrc_v rfl rfl h4.y) rfl rfl (c_keepIf h4 hr m5 (by decide) (by omega) (by omega) (by omega) hs2) ?_
      intro o5 h5
      exact RW.re rfl rfl h5.mvp
    refine RW.ps 2 rfl ?_
    refine RW.gf h3.y h3.f2 ?_
    refine RW.ps 1 rfl ?_
    refine RW.ia h3.k2 ha.ix ha.lt ?_
    rw [sva]
    refine RW.ps 1 rfl ?_
    refine RW.ifc (fun k4 => ?_) (fun k4 => ?_)
    · rw [xi_ne, i0] at k4
      refine RW.ps 1 rfl ?_
      refine RW.gf h3.y h3.f2 ?_
      refine RW.ps 1 rfl ?_
      refine RW.ia h3.k2 hb.ix hb.lt ?_
      rw [svb]
      refine RW.ps 1 rfl ?_
      refine h138 (-Int32.ofInt y.sign) (-y) (Int.natAbs_neg y) ?_ ?_
      · rw [← Int32.ofInt_neg, Int.sign_neg]
        have := sign_rng y
        exact ii_toInt (by omega) (by omega)
      · unfold rk; rw [if_neg k3, if_pos (by omega)]; omega
    · rw [xi_ne, i0] at k4
      refine RW.ps 1 rfl ?_
      refine RW.gf h3.y h3.f2 ?_
      refine RW.ps 1 rfl ?_
      refine RW.ia h3.k2 hb.ix hb.lt ?_
      rw [svb]
      refine RW.go ?_
      refine h138 (Int32.ofInt y.sign) y rfl (sign_i y) ?_
      unfold rk; rw [if_neg k3, if_neg (by omega)]
  · rw [xi_ne, show (2 : Int32).toInt = 2 from rfl] at k3
    have k3 := Classical.not_not.mp k3
    have hrk : rk m x y = x * y := by unfold rk; rw [if_pos k3]
    rw [hrk]
    refine RW.ps 2 rfl ?_
    refine RW.gf h3.y h3.f3 ?_
    refine RW.ps 1 rfl ?_
    refine RW.gf h3.y h3.f4 ?_
    refine RW.cv rfl rfl (xrc_v rfl rfl h3.y) rfl rfl (c_mmul h3.2.1 m3 m4 (by decide) (by decide) (by omega) (by omega) (by omega)) ?_
    intro o4 ⟨f4, m5⟩
    have h4 := h3.scr f4 (by omega) (by omega)
    have m5 : Mn o4 (Y + 8) 2400 (x * y).natAbs := by rw [Int.natAbs_mul]; exact m5
    refine RW.ps 3 rfl ?_
    refine RW.gf h4.y h4.f8 ?_
    refine RW.ps 1 rfl ?_
    refine RW.gf h4.y h4.f2 ?_
    refine RW.ps 1 rfl ?_
    refine RW.ia h4.k2 ha.ix ha.lt ?_
    rw [h4.sv ha, hx]
    refine RW.ps 1 rfl ?_
    refine RW.gf h4.y h4.f2 ?_
    refine RW.ps 1 rfl ?_
    refine RW.ia h4.k2 hb.ix hb.lt ?_
    rw [h4.sv hb, hy]
    refine RW.ps 1 rfl ?_
    refine RW.top (congrArg Value.int ((show Int32.ofInt x.sign * Int32.ofInt y.sign = Int32.ofInt (x * y).sign by rw [ii_mul, Int.sign_mul]))) ?_
    refine RW.cv rfl rfl (xrc_v rfl rfl h4.y) rfl rfl (c_keepIf h4 hr m5 (by decide) (by omega) (by omega) (by omega) (fun _ => rfl)) ?_
    intro o5 h5
    refine RW.go ?_
    exact RW.re rfl rfl h5.mvp
end C2
