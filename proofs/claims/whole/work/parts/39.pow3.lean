/-! POWERS BY REST: the whole run. -/
def PwX (o : xO) (P : Nat) : Prop := Rx o (P + 5) ∧ Rx o (P + 8) ∧ Rx o (P + 10) ∧ Rx o (P + 12)
theorem PwX.num {o : xO} {P r x : Nat} (h : PwX o P) (hr : r + 2 ≤ P + 5 ∨ P + 14 ≤ r) : PwX (sNum o r x) P := by
  obtain ⟨⟨a, ha⟩, ⟨b, hb⟩, ⟨c, hc⟩, ⟨d, hd⟩⟩ := h
  exact ⟨⟨a, ha.ne (by omega)⟩, ⟨b, hb.ne (by omega)⟩, ⟨c, hc.ne (by omega)⟩, ⟨d, hd.ne (by omega)⟩⟩
theorem c_raiseByRest {o : xO} {P w ex mo e m va vb : Nat} {a : Int} (hp : IsPw o P) (h1 : Rn o (P + 1) va) (h3 : Rn o (P + 3) vb) (hX : PwX o P) (hw : Wn o w a) (hwP : w + 3 ≤ P ∨ P + 14 ≤ w) (hex : Rn o ex e) (hexP : ex + 2 ≤ P ∨ P + 14 ≤ ex) (hmo : Rn o mo m) (hmoP : mo + 2 ≤ P ∨ P + 14 ≤ mo) (hm : 0 < m) (hm2 : nl m ≤ 265) (ha : nl a.natAbs ≤ 538) :
    Cv y_Powers_raiseByRest [.ref P, .ref w, .ref ex, .ref mo] o (fun o' => Fr (PwS P) o o' ∧ Rn o' (P + 1) (rst a m ^ e % m) ∧ Rx o' (P + 3) ∧ PwX o' P) := by
  have oP := PwS.out (P := P) (b := P) (by omega)
  have oP7 := PwS.out (P := P) (b := P + 7) (by omega)
  have ow := PwS.out (P := P) (b := w) (by omega)
  have ow1 := PwS.out (P := P) (b := w + 1) (by omega)
  have ow2 := PwS.out (P := P) (b := w + 2) (by omega)
  have oe := PwS.out (P := P) (b := ex) (by omega)
  have oe1 := PwS.out (P := P) (b := ex + 1) (by omega)
  have om := PwS.out (P := P) (b := mo) (by omega)
  have om1 := PwS.out (P := P) (b := mo + 1) (by omega)
  have oo : ∀ b, (b < P + 7 + 1 ∨ P + 7 + 1 + 6 ≤ b) → Out [(P + 7 + 1, 6)] b := fun b h => ⟨h, trivial⟩
  have hBm := rst_lt (a := a) hm
  have hne := nbit_big hex.2.1
  -- the loop
  have loop : ∀ (k : Nat) (kw : Int32), kw.toInt = (k : Int) - 1 → k ≤ nbit e → ∀ o4, Fr (PwS P) o o4 → Rn o4 (P + 1) (rst a m ^ (e / 2 ^ k) % m) → Rn o4 (P + 3) (rst a m) → PwX o4 P →
      RW (fun r o' => r = .inl none ∧ (Fr (PwS P) o o' ∧ Rn o' (P + 1) (rst a m ^ e % m) ∧ Rx o' (P + 3) ∧ PwX o' P)) y_Powers_raiseByRest (xbk y_Powers_raiseByRest 107) [.ref P, .ref w, .ref ex, .ref mo, .int kw] [] o4 := by
    intro k
    induction k with
    | zero =>
      intro kw hk hkb o4 f4 g1 g3 gX
      rw [Nat.pow_zero, Nat.div_one] at g1
      refine RW.ps 1 rfl ?_
      refine RW.ifc (fun _ => ?_) (fun h4 => ?_)
      · exact RW.re rfl rfl ⟨rfl, f4, g1, ⟨_, g3⟩, gX⟩
      · rw [xi_lt, hk, i0] at h4; omega
    | succ k ih =>
      intro kw hk hkb o4 f4 g1 g3 gX
      have hk : kw.toInt = (k : Int) := by omega
      have hp4 := hp.fr f4 oP oP7
      have hm4 := hmo.fr f4 om om1
      have hE : e / 2 ^ k = 2 * (e / 2 ^ (k + 1)) + e / 2 ^ k % 2 := by
        rw [Nat.pow_succ, ← Nat.div_div_eq_div_mul]; omega
      generalize e / 2 ^ (k + 1) = E at g1 hE
      have hAm := Nat.mod_lt (rst a m ^ E) hm
      obtain ⟨⟨v5, x5⟩, ⟨v8, x8⟩, ⟨v10, x10⟩, ⟨v12, x12⟩⟩ := gX
      have hnA : nl (rst a m ^ E % m) ≤ 265 := by have := nl_lt hAm; omega
      have hnB : nl (rst a m) ≤ 265 := by have := nl_lt hBm; omega
      have hS : rst a m ^ E % m * (rst a m ^ E % m) % m = rst a m ^ (2 * E) % m := by
        rw [← Nat.mul_mod, ← Nat.pow_add, show E + E = 2 * E by omega]
      have fup : ∀ {oa ob : xO}, Fr [(P + 1, 2), (P + 5, 2), (P + 8, 6)] oa ob → Fr (PwS P) oa ob := fun h => h.up (fun b hb => ⟨by have := hb.1; dsimp only at this ⊢; omega, by have := hb.1; dsimp only at this ⊢; omega, by have := hb.2.1; dsimp only at this ⊢; omega, trivial⟩)
      have oB : Out [(P + 1, 2), (P + 5, 2), (P + 8, 6)] (P + 3) := ⟨by dsimp only; omega, by dsimp only; omega, by dsimp only; omega, trivial⟩
      have oB1 : Out [(P + 1, 2), (P + 5, 2), (P + 8, 6)] (P + 3 + 1) := ⟨by dsimp only; omega, by dsimp only; omega, by dsimp only; omega, trivial⟩
      refine RW.ps 1 rfl ?_
      refine RW.ifc (fun h4 => ?_) (fun _ => ?_)
      · rw [xi_lt, hk, i0] at h4; omega
      refine RW.ps 2 rfl ?_
      refine RW.gf hp4.1 hp4.2.1 ?_
      refine RW.ps 1 rfl ?_
      refine RW.cv rfl rfl (xrc_v rfl rfl hp4.1) rfl rfl (c_multiplyByRest hp4 g1 x5 x8 x10 x12 g1 (by omega) hm4 hmoP hm hnA hnA hm2) ?_
      intro o5 ⟨f5, r1, y5, y8, y10, y12⟩
      rw [hS] at r1
      have f5' := f4.trans (fup f5)
      have b3 := g3.fr f5 oB oB1
      have he5 := hex.fr f5' oe oe1
      refine RW.weak (lv0 := [.ref P, .ref w, .ref ex, .ref mo, .int kw]) ⟨Or.inr rfl, Or.inr rfl, Or.inr rfl, Or.inr rfl, Or.inr rfl, trivial⟩ ?_
      refine RW.sk [] rfl ?_
      refine RW.ps 2 rfl ?_
      refine RW.cp rfl rfl (xrc_v rfl rfl he5.1.1) rfl rfl (c_hasOne he5 hk (by omega)) ?_
      have hnx : ∀ o6, Fr (PwS P) o o6 → Rn o6 (P + 1) (rst a m ^ (e / 2 ^ k) % m) → Rn o6 (P + 3) (rst a m) → PwX o6 P →
          RW (fun r o' => r = .inl none ∧ (Fr (PwS P) o o' ∧ Rn o' (P + 1) (rst a m ^ e % m) ∧ Rx o' (P + 3) ∧ PwX o' P)) y_Powers_raiseByRest (xbk y_Powers_raiseByRest 139) [.ref P, .ref w, .ref ex, .ref mo, .int kw] [] o6 := by
        intro o6 g1 g2 g3 g4
        refine RW.ps 1 rfl ?_
        refine RW.go ?_
        exact ih (kw + (-1)) (by rw [← Int32.sub_eq_add_neg]; exact i_subnat hk (by omega)) (by omega) o6 g1 g2 g3 g4
      by_cases hb : e / 2 ^ k % 2 = 1
      · rw [decide_eq_true hb]
        refine RW.ifc (fun h6 => absurd (xi_eq.mp h6) (by decide)) (fun _ => ?_)
        have hp5 := hp.fr f5' oP oP7
        have hm5 := hmo.fr f5' om om1
        obtain ⟨v5, x5⟩ := y5
        obtain ⟨v8, x8⟩ := y8
        obtain ⟨v10, x10⟩ := y10
        obtain ⟨v12, x12⟩ := y12
        have hnA2 : nl (rst a m ^ (2 * E) % m) ≤ 265 := by have := nl_lt (Nat.mod_lt (rst a m ^ (2 * E)) hm); omega
        refine RW.weak (lv0 := [.ref P, .ref w, .ref ex, .ref mo, .int kw]) ⟨Or.inr rfl, Or.inr rfl, Or.inr rfl, Or.inr rfl, Or.inr rfl, trivial⟩ ?_
        refine RW.sk [] rfl ?_
        refine RW.ps 2 rfl ?_
        refine RW.gf hp5.1 hp5.2.2.1 ?_
        refine RW.ps 1 rfl ?_
        refine RW.cv rfl rfl (xrc_v rfl rfl hp5.1) rfl rfl (c_multiplyByRest hp5 r1 x5 x8 x10 x12 b3 (by omega) hm5 hmoP hm hnA2 hnB hm2) ?_
        intro o6 ⟨f6, r6, z⟩
        rw [show rst a m ^ (2 * E) % m * rst a m % m = rst a m ^ (e / 2 ^ k) % m by rw [hE, hb, Nat.pow_succ, Nat.mod_mul_mod]] at r6
        exact hnx o6 (f5'.trans (fup f6)) r6 (b3.fr f6 oB oB1) z
      · rw [decide_eq_false hb]
        refine RW.ifc (fun _ => ?_) (fun h6 => absurd (xi_eq.mpr rfl) h6)
        refine RW.weak (lv0 := [.ref P, .ref w, .ref ex, .ref mo, .int kw]) ⟨Or.inr rfl, Or.inr rfl, Or.inr rfl, Or.inr rfl, Or.inr rfl, trivial⟩ ?_
        refine RW.sk [] rfl ?_
        refine hnx o5 f5' ?_ b3 ⟨y5, y8, y10, y12⟩
        rw [show e / 2 ^ k = 2 * E by omega]; exact r1
  -- from the base on
  have h65 : ∀ o4 va, Fr (PwS P) o o4 → Rn o4 (P + 1) va → Rn o4 (P + 3) (rst a m) → PwX o4 P →
      RW (fun r o' => r = .inl none ∧ (Fr (PwS P) o o' ∧ Rn o' (P + 1) (rst a m ^ e % m) ∧ Rx o' (P + 3) ∧ PwX o' P)) y_Powers_raiseByRest (xbk y_Powers_raiseByRest 65) [.ref P, .ref w, .ref ex, .ref mo, xj] [] o4 := by
    intro o4 va f4 g1 g3 gX
    have hp4 := hp.fr f4 oP oP7
    refine RW.ps 1 rfl ?_
    refine RW.gf hp4.1 hp4.2.1 ?_
    refine RW.ps 1 rfl ?_
    refine RW.cv rfl rfl (xrc_v rfl rfl g1.1.1) rfl rfl (c_becomeLong (n := 1) g1 (by decide)) ?_
    intro o5 ho5
    have f5 : Fr (PwS P) o o5 := by subst ho5; exact f4.trans (Fr.up Fr.num (fun b hb => PwS.r1 (by omega) (by omega) hb))
    have r1 : Rn o5 (P + 1) 1 := by subst ho5; exact Rn.num g1 (Nat.one_lt_pow (by decide) (by decide))
    have r3 : Rn o5 (P + 3) (rst a m) := by subst ho5; exact g3.ne (by omega)
    have rX : PwX o5 P := by subst ho5; exact gX.num (by omega)
    clear ho5
    have hp5 := hp.fr f5 oP oP7
    have hm5 := hmo.fr f5 om om1
    obtain ⟨⟨v5, x5⟩, ⟨v8, x8⟩, ⟨v10, x10⟩, ⟨v12, x12⟩⟩ := rX
    refine RW.weak (lv0 := [.ref P, .ref w, .ref ex, .ref mo, xj]) ⟨Or.inr rfl, Or.inr rfl, Or.inr rfl, Or.inr rfl, Or.inl rfl, trivial⟩ ?_
    refine RW.sk [] rfl ?_
    refine RW.ps 1 rfl ?_
    refine RW.gf hp5.1 hp5.2.2.2.2.1 ?_
    refine RW.ps 1 rfl ?_
    refine RW.gf hp5.1 hp5.2.1 ?_
    refine RW.ps 1 rfl ?_
    refine RW.cv rfl rfl (xrc_v rfl rfl hp5.2.2.2.2.2.1) rfl rfl (c_divide hp5.2.2.2.2.2 x8 x10 x12 r1 hm5 hm (by omega) (by omega) (by decide +kernel) (by omega)) ?_
    intro o6 ⟨f6, q6, t6, s6⟩
    have f6' : Fr (PwS P) o o6 := f5.trans (f6.up (fun b hb => PwS.d hb))
    have hp6 := hp.fr f6' oP oP7
    have a6 := r1.fr f6 (oo _ (by omega)) (oo _ (by omega))
    have b6 := r3.fr f6 (oo _ (by omega)) (oo _ (by omega))
    have p6 := x5.fr f6 (oo _ (by omega)) (oo _ (by omega))
    refine RW.weak (lv0 := [.ref P, .ref w, .ref ex, .ref mo, xj]) ⟨Or.inr rfl, Or.inr rfl, Or.inr rfl, Or.inr rfl, Or.inl rfl, trivial⟩ ?_
    refine RW.sk [] rfl ?_
    refine RW.ps 1 rfl ?_
    refine RW.gf hp6.1 hp6.2.1 ?_
    refine RW.ps 1 rfl ?_
    refine RW.gf hp6.1 hp6.2.2.2.2.1 ?_
    refine RW.gf hp6.2.2.2.2.2.1 hp6.2.2.2.2.2.2.2.1 ?_
    refine RW.cv rfl rfl (xrc_v rfl rfl a6.1.1) rfl rfl (c_become a6 t6) ?_
    intro o7 ho7
    have f7 : Fr (PwS P) o o7 := by subst ho7; exact f6'.trans (Fr.up Fr.num (fun b hb => PwS.r1 (by omega) (by omega) hb))
    have a7 : Rn o7 (P + 1) (1 % m) := by subst ho7; exact Rn.num a6 t6.2.1
    have b7 : Rn o7 (P + 3) (rst a m) := by subst ho7; exact b6.ne (by omega)
    have x7 : PwX o7 P := by
      have hx6 : PwX o6 P := ⟨⟨_, p6⟩, ⟨_, q6⟩, ⟨_, t6⟩, s6⟩
      subst ho7; exact hx6.num (by omega)
    clear ho7
    have he7 := hex.fr f7 oe oe1
    refine RW.weak (lv0 := [.ref P, .ref w, .ref ex, .ref mo, xj]) ⟨Or.inr rfl, Or.inr rfl, Or.inr rfl, Or.inr rfl, Or.inl rfl, trivial⟩ ?_
    refine RW.sk [] rfl ?_
    refine RW.ps 1 rfl ?_
    refine RW.cp rfl rfl (xrc_v rfl rfl he7.1.1) rfl rfl (c_bits he7) ?_
    refine RW.ps 3 rfl ?_
    refine RW.weak (lv0 := [.ref P, .ref w, .ref ex, .ref mo, .int (Int32.ofInt (nbit e : Nat) - 1)]) ⟨Or.inr rfl, Or.inr rfl, Or.inr rfl, Or.inr rfl, Or.inr rfl, trivial⟩ ?_
    refine RW.sk [] rfl ?_
    refine loop (nbit e) _ (i_subnat (iu (by omega)) (by omega)) (Nat.le_refl _) o7 f7 ?_ b7 x7
    rw [Nat.div_eq_of_lt (nbit_self e), Nat.pow_zero]
    exact a7
  obtain ⟨⟨v5, x5⟩, ⟨v8, x8⟩, ⟨v10, x10⟩, ⟨v12, x12⟩⟩ := hX
  refine RW.ps 1 rfl ?_
  refine RW.gf hp.1 hp.2.2.2.2.1 ?_
  refine RW.ps 1 rfl ?_
  refine RW.gf hw.1 hw.2.1 ?_
  refine RW.ps 1 rfl ?_
  refine RW.cv rfl rfl (xrc_v rfl rfl hp.2.2.2.2.2.1) rfl rfl (c_divide hp.2.2.2.2.2 x8 x10 x12 hw.2.2.1 hmo hm (by omega) (by omega) ha (by omega)) ?_
  intro o1 ⟨f1, q1, t1, s1⟩
  have f1' : Fr (PwS P) o o1 := f1.up (fun b hb => PwS.d hb)
  have hp1 := hp.fr f1' oP oP7
  have a1 := h1.fr f1 (oo _ (by omega)) (oo _ (by omega))
  have b1 := h3.fr f1 (oo _ (by omega)) (oo _ (by omega))
  have p1 := x5.fr f1 (oo _ (by omega)) (oo _ (by omega))
  refine RW.weak (lv0 := [.ref P, .ref w, .ref ex, .ref mo, xj]) ⟨Or.inr rfl, Or.inr rfl, Or.inr rfl, Or.inr rfl, Or.inl rfl, trivial⟩ ?_
  refine RW.sk [] rfl ?_
  refine RW.ps 1 rfl ?_
  refine RW.gf hp1.1 hp1.2.2.1 ?_
  refine RW.ps 1 rfl ?_
  refine RW.gf hp1.1 hp1.2.2.2.2.1 ?_
  refine RW.gf hp1.2.2.2.2.2.1 hp1.2.2.2.2.2.2.2.1 ?_
  refine RW.cv rfl rfl (xrc_v rfl rfl b1.1.1) rfl rfl (c_become b1 t1) ?_
  intro o2 ho2
  have f2 : Fr (PwS P) o o2 := by subst ho2; exact f1'.trans (Fr.up Fr.num (fun b hb => PwS.r1 (by omega) (by omega) hb))
  have a2 : Rn o2 (P + 1) va := by subst ho2; exact a1.ne (by omega)
  have b2 : Rn o2 (P + 3) (a.natAbs % m) := by subst ho2; exact Rn.num b1 t1.2.1
  have t2 : Rn o2 (P + 10) (a.natAbs % m) := by subst ho2; exact t1.ne (by omega)
  have x2 : PwX o2 P := by
    have hx1 : PwX o1 P := ⟨⟨_, p1⟩, ⟨_, q1⟩, ⟨_, t1⟩, s1⟩
    subst ho2; exact hx1.num (by omega)
  clear ho2
  have hw2 := hw.fr f2 ow ow1 ow2
  have hp2 := hp.fr f2 oP oP7
  have hm2' := hmo.fr f2 om om1
  refine RW.weak (lv0 := [.ref P, .ref w, .ref ex, .ref mo, xj]) ⟨Or.inr rfl, Or.inr rfl, Or.inr rfl, Or.inr rfl, Or.inl rfl, trivial⟩ ?_
  refine RW.sk [] rfl ?_
  refine RW.ps 1 rfl ?_
  refine RW.gf hw2.1 hw2.2.2.2 ?_
  rcases sgn_cases a with ⟨hs, ha0⟩ | ⟨hs, ha0⟩
  · rw [hs]
    refine RW.ifc (fun h6 => absurd (xi_eq.mp h6) (by decide)) (fun _ => ?_)
    have hrs := rst_neg ha0 hm
    refine RW.ps 1 rfl ?_
    refine RW.gf hp2.1 hp2.2.2.1 ?_
    refine RW.cp rfl rfl (xrc_v rfl rfl b2.1.1) rfl rfl (c_isZero b2) ?_
    by_cases h0 : a.natAbs % m = 0
    · rw [if_pos h0] at hrs ⊢
      refine RW.ifc (fun _ => ?_) (fun h2 => absurd (xi_ne.mpr (by decide)) h2)
      refine RW.weak (lv0 := [.ref P, .ref w, .ref ex, .ref mo, xj]) ⟨Or.inr rfl, Or.inr rfl, Or.inr rfl, Or.inr rfl, Or.inl rfl, trivial⟩ ?_
      refine RW.sk [] rfl ?_
      exact h65 o2 va f2 a2 (by rw [hrs, ← h0]; exact b2) x2
    · rw [if_neg h0] at hrs ⊢
      refine RW.ifc (fun h2 => absurd rfl (xi_ne.mp h2)) (fun _ => ?_)
      refine RW.weak (lv0 := [.ref P, .ref w, .ref ex, .ref mo, xj]) ⟨Or.inr rfl, Or.inr rfl, Or.inr rfl, Or.inr rfl, Or.inl rfl, trivial⟩ ?_
      refine RW.sk [] rfl ?_
      refine RW.ps 1 rfl ?_
      refine RW.gf hp2.1 hp2.2.2.1 ?_
      refine RW.ps 1 rfl ?_
      refine RW.cv rfl rfl (xrc_v rfl rfl b2.1.1) rfl rfl (c_become b2 hm2') ?_
      intro o3 ho3
      have f3 : Fr (PwS P) o o3 := by subst ho3; exact f2.trans (Fr.up Fr.num (fun b hb => PwS.r1 (by omega) (by omega) hb))
      have a3 : Rn o3 (P + 1) va := by subst ho3; exact a2.ne (by omega)
      have b3 : Rn o3 (P + 3) m := by subst ho3; exact Rn.num b2 hmo.2.1
      have t3 : Rn o3 (P + 10) (a.natAbs % m) := by subst ho3; exact t2.ne (by omega)
      have x3 : PwX o3 P := by subst ho3; exact x2.num (by omega)
      clear ho3
      have hp3 := hp.fr f3 oP oP7
      refine RW.weak (lv0 := [.ref P, .ref w, .ref ex, .ref mo, xj]) ⟨Or.inr rfl, Or.inr rfl, Or.inr rfl, Or.inr rfl, Or.inl rfl, trivial⟩ ?_
      refine RW.sk [] rfl ?_
      refine RW.ps 1 rfl ?_
      refine RW.gf hp3.1 hp3.2.2.1 ?_
      refine RW.ps 1 rfl ?_
      refine RW.gf hp3.1 hp3.2.2.2.2.1 ?_
      refine RW.gf hp3.2.2.2.2.2.1 hp3.2.2.2.2.2.2.2.1 ?_
      refine RW.cv rfl rfl (xrc_v rfl rfl b3.1.1) rfl rfl (c_take b3 t3 (by omega) (Nat.le_of_lt (Nat.mod_lt _ hm))) ?_
      intro o4 ho4
      have f4 : Fr (PwS P) o o4 := by subst ho4; exact f3.trans (Fr.up Fr.num (fun b hb => PwS.r1 (by omega) (by omega) hb))
      have a4 : Rn o4 (P + 1) va := by subst ho4; exact a3.ne (by omega)
      have b4 : Rn o4 (P + 3) (rst a m) := by subst ho4; rw [hrs]; exact Rn.num b3 (Nat.lt_of_le_of_lt (Nat.sub_le _ _) hmo.2.1)
      have x4 : PwX o4 P := by subst ho4; exact x3.num (by omega)
      refine RW.weak (lv0 := [.ref P, .ref w, .ref ex, .ref mo, xj]) ⟨Or.inr rfl, Or.inr rfl, Or.inr rfl, Or.inr rfl, Or.inl rfl, trivial⟩ ?_
      refine RW.sk [] rfl ?_
      exact h65 o4 va f4 a4 b4 x4
  · rw [hs]
    refine RW.ifc (fun _ => ?_) (fun h6 => absurd (xi_eq.mpr rfl) h6)
    refine RW.weak (lv0 := [.ref P, .ref w, .ref ex, .ref mo, xj]) ⟨Or.inr rfl, Or.inr rfl, Or.inr rfl, Or.inr rfl, Or.inl rfl, trivial⟩ ?_
    refine RW.sk [] rfl ?_
    exact h65 o2 va f2 a2 (by rw [rst_pos ha0]; exact b2) x2
