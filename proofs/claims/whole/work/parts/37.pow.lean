/-! POWERS. -/
def TOP : Nat := 2 ^ 8192
theorem top_nl {x : Nat} (h : x < TOP) : nl x ≤ 265 := nl_le.mpr (Nat.lt_of_lt_of_le h (by unfold TOP; rw [b31]; exact Nat.pow_le_pow_right (by decide) (by decide)))
theorem top_big : TOP < BIG := by unfold TOP BIG; rw [b31]; exact Nat.pow_lt_pow_right (by decide) (by decide)
theorem top_bits {x : Nat} : nbit x ≤ 8192 ↔ x < TOP := nbit_le
theorem mul_big {x y : Nat} (h : nl x + nl y ≤ 539) : x * y < BIG := by
  have h3 := Nat.mul_lt_mul'' (nl_le.mp (Nat.le_refl (nl x))) (nl_le.mp (Nat.le_refl (nl y)))
  rw [← Nat.pow_add] at h3
  exact Nat.lt_of_lt_of_le h3 (Nat.pow_le_pow_right (by decide) h)
theorem nbit_big {x : Nat} (h : x < BIG) : nbit x ≤ 16709 := by
  have := big_nl h
  unfold nl at this
  omega
def IsPw (o : xO) (P : Nat) : Prop := xk o P = (3, 4) ∧ xf o P 0 = .ref (P + 1) ∧ xf o P 1 = .ref (P + 3) ∧ xf o P 2 = .ref (P + 5) ∧ xf o P 3 = .ref (P + 7) ∧ IsDv o (P + 7)
theorem IsDv.fr {S : List (Nat × Nat)} {o o' : xO} {d : Nat} (h : IsDv o d) (hf : Fr S o o') (h0 : Out S d) : IsDv o' d :=
  ⟨by rw [hf.k]; exact h.1, by rw [hf.f h0]; exact h.2.1, by rw [hf.f h0]; exact h.2.2.1, by rw [hf.f h0]; exact h.2.2.2⟩
theorem IsPw.fr {S : List (Nat × Nat)} {o o' : xO} {P : Nat} (h : IsPw o P) (hf : Fr S o o') (h0 : Out S P) (h7 : Out S (P + 7)) : IsPw o' P :=
  ⟨by rw [hf.k]; exact h.1, by rw [hf.f h0]; exact h.2.1, by rw [hf.f h0]; exact h.2.2.1, by rw [hf.f h0]; exact h.2.2.2.1, by rw [hf.f h0]; exact h.2.2.2.2.1, h.2.2.2.2.2.fr hf h7⟩
theorem c_multiply {o : xO} {P f A F vp : Nat} (hp : IsPw o P) (ha : Rn o (P + 1) A) (hpr : Rn o (P + 5) vp) (hf : Rn o f F) (hfp : f ≠ P + 5) (hA : A < TOP) (hF : F < TOP) :
    Cq y_Powers_multiply [.ref P, .ref f] o (fun v o' => v = .int (sg (decide (A * F < TOP))) ∧ Fr [(P + 1, 2), (P + 5, 2)] o o' ∧ Rn o' (P + 1) (if A * F < TOP then A * F else A) ∧ Rx o' (P + 5)) := by
  have hB : A * F < BIG := mul_big (by have := top_nl hA; have := top_nl hF; omega)
  have hnb := nbit_big hB
  refine RW.ps 1 rfl ?_
  refine RW.gf hp.1 hp.2.2.2.1 ?_
  refine RW.ps 1 rfl ?_
  refine RW.gf hp.1 hp.2.1 ?_
  refine RW.ps 1 rfl ?_
  refine RW.cv rfl rfl (xrc_v rfl rfl hpr.1.1) rfl rfl (c_becomeProduct hpr ha hf (by omega) hfp (by have := top_nl hA; have := top_nl hF; omega)) ?_
  intro o1 ho1
  have f1 : Fr [(P + 1, 2), (P + 5, 2)] o o1 := by subst ho1; exact Fr.up Fr.num (fun b hb => ⟨by have := hb.2.1; dsimp only at this ⊢; omega, trivial⟩)
  have hp1 := hp.fr f1 ⟨by dsimp only; omega, by dsimp only; omega, trivial⟩ ⟨by dsimp only; omega, by dsimp only; omega, trivial⟩
  have ha1 : Rn o1 (P + 1) A := by subst ho1; exact ha.ne (by omega)
  have hr1 : Rn o1 (P + 5) (A * F) := by subst ho1; exact Rn.num hpr hB
  clear ho1
  refine RW.weak (lv0 := [.ref P, .ref f]) ⟨Or.inr rfl, Or.inr rfl, trivial⟩ ?_
  refine RW.sk [] rfl ?_
  refine RW.ps 1 rfl ?_
  refine RW.gf hp1.1 hp1.2.2.2.1 ?_
  refine RW.cp rfl rfl (xrc_v rfl rfl hr1.1.1) rfl rfl (c_bits hr1) ?_
  refine RW.ps 1 rfl ?_
  have hle : xcd .le (Int32.ofInt (nbit (A * F) : Nat)) 8192 ↔ A * F < TOP := by
    rw [← top_bits, xi_le, iu (by omega), show (8192 : Int32).toInt = 8192 from rfl]; omega
  refine RW.icm (fun h1 => ?_) (fun h1 => ?_)
  · rw [hle] at h1
    refine RW.ps 1 rfl ?_
    refine RW.gf hp1.1 hp1.2.1 ?_
    refine RW.ps 1 rfl ?_
    refine RW.gf hp1.1 hp1.2.2.2.1 ?_
    refine RW.cv rfl rfl (xrc_v rfl rfl ha1.1.1) rfl rfl (c_become ha1 hr1) ?_
    intro o2 ho2
    refine RW.ps 1 rfl ?_
    refine RW.re rfl rfl ⟨_, rfl, ?_, ?_, ?_, ?_⟩
    · rw [decide_eq_true h1]; rfl
    · subst ho2; exact f1.trans (Fr.up Fr.num (fun b hb => ⟨by have := hb.1; dsimp only at this ⊢; omega, trivial⟩))
    · rw [if_pos h1]; subst ho2; exact Rn.num ha1 hB
    · subst ho2; exact ⟨_, hr1.ne (by omega)⟩
  · rw [hle] at h1
    refine RW.ps 1 rfl ?_
    refine RW.re rfl rfl ⟨_, rfl, ?_, f1, ?_, _, hr1⟩
    · rw [decide_eq_false h1]; rfl
    · rw [if_neg h1]; exact ha1
theorem c_bitsOf' {o : xO} {d : Nat} (h1 : d < 2147483648) : Cp y_W_bitsOf [.int (Int32.ofInt (d : Int))] o (.int (Int32.ofInt (nbit d : Nat))) := by
  rcases Nat.eq_zero_or_pos d with h | h
  · subst h
    have hz : Cp y_Int_numberOfLeadingZeros [.int (Int32.ofInt ((0 : Nat) : Int))] o (.int 32) := by
      refine RW.ps 1 rfl ?_
      refine RW.ifc (fun h2 => absurd (xi_gt.mp h2) (by decide)) (fun _ => ?_)
      refine RW.ps 1 rfl ?_
      refine RW.ifc (fun h2 => absurd rfl (xi_ne.mp h2)) (fun _ => ?_)
      refine RW.ps 1 rfl ?_
      refine RW.go ?_
      exact RW.re rfl rfl ⟨rfl, rfl⟩
    refine RW.ps 2 rfl ?_
    refine RW.cp rfl rfl rfl rfl rfl (hz) ?_
    refine RW.ps 1 rfl ?_
    exact RW.re rfl rfl ⟨rfl, rfl⟩
  · exact c_bitsOf h h1
theorem pow_top {x e n : Nat} (he : e ≤ n) (h : ¬ x ^ e < TOP) : ¬ x ^ n < TOP := by
  have ht : 1 < TOP := by unfold TOP; exact Nat.one_lt_two_pow (by decide)
  rcases Nat.eq_zero_or_pos x with z | z
  · subst z
    exfalso
    apply h
    rcases Nat.eq_zero_or_pos e with z2 | z2
    · subst z2; exact ht
    · rw [Nat.zero_pow z2]; omega
  · have := Nat.pow_le_pow_right z he
    omega
theorem c_raise {o : xO} {P a x n va vp : Nat} {nw : Int32} (hp : IsPw o P) (ha : Rn o (P + 1) va) (hpr : Rn o (P + 5) vp) (hx : Rn o a x) (hap : a + 2 ≤ P ∨ P + 14 ≤ a) (hxT : x < TOP) (hn : nw.toInt = (n : Int)) (hn2 : n < 2147483648) :
    Cq y_Powers_raise [.ref P, .ref a, .int nw] o (fun v o' => v = .int (sg (decide (x ^ n < TOP))) ∧ Fr [(P + 1, 2), (P + 5, 2)] o o' ∧ Rx o' (P + 1) ∧ Rx o' (P + 5) ∧ (x ^ n < TOP → Rn o' (P + 1) (x ^ n))) := by
  have hnw := i_of hn
  have hnb : nbit n ≤ 31 := nbit_le.mpr hn2
  have loop : ∀ (m : Nat) (kw : Int32), kw.toInt = (m : Int) - 1 → m ≤ 31 → ∀ w, Fr [(P + 1, 2), (P + 5, 2)] o w → Rn w (P + 1) (x ^ (n / 2 ^ m)) → x ^ (n / 2 ^ m) < TOP → Rx w (P + 5) →
      RW (fun r o' => ∃ v, r = .inl (some v) ∧ (v = .int (sg (decide (x ^ n < TOP))) ∧ Fr [(P + 1, 2), (P + 5, 2)] o o' ∧ Rx o' (P + 1) ∧ Rx o' (P + 5) ∧ (x ^ n < TOP → Rn o' (P + 1) (x ^ n)))) y_Powers_raise (xbk y_Powers_raise 15) [.ref P, .ref a, .int nw, .int kw] [] w := by
    intro m
    induction m with
    | zero =>
      intro kw hk hm w hf h1 h2 h3
      rw [Nat.pow_zero, Nat.div_one] at h1 h2
      refine RW.ps 1 rfl ?_
      refine RW.ifc (fun _ => ?_) (fun h4 => ?_)
      · refine RW.ps 1 rfl ?_
        refine RW.re rfl rfl ⟨_, rfl, ?_, hf, ⟨_, h1⟩, h3, fun _ => h1⟩
        rw [decide_eq_true h2]; rfl
      · rw [xi_lt, hk, i0] at h4; omega
    | succ m ih =>
      intro kw hk hm w hf h1 h2 h3
      have hk : kw.toInt = (m : Int) := by omega
      have hp1 := hp.fr hf ⟨by dsimp only; omega, by dsimp only; omega, trivial⟩ ⟨by dsimp only; omega, by dsimp only; omega, trivial⟩
      have hx1 := hx.fr hf ⟨by dsimp only; omega, by dsimp only; omega, trivial⟩ ⟨by dsimp only; omega, by dsimp only; omega, trivial⟩
      obtain ⟨v3, h3⟩ := h3
      have hpp : n / 2 ^ m = 2 * (n / 2 ^ (m + 1)) + n / 2 ^ m % 2 := by
        rw [Nat.pow_succ, ← Nat.div_div_eq_div_mul]; omega
      have hle1 : n / 2 ^ m ≤ n := Nat.div_le_self _ _
      generalize n / 2 ^ (m + 1) = E at h1 h2 hpp
      have hsq : x ^ E * x ^ E = x ^ (2 * E) := by rw [← Nat.pow_add]; congr 1; omega
      refine RW.ps 1 rfl ?_
      refine RW.ifc (fun h4 => ?_) (fun _ => ?_)
      · rw [xi_lt, hk, i0] at h4; omega
      refine RW.ps 2 rfl ?_
      refine RW.gf hp1.1 hp1.2.1 ?_
      refine RW.cq rfl rfl (xrc_v rfl rfl hp1.1) rfl rfl (c_multiply hp1 h1 h3 h1 (by omega) h2 h2) ?_
      intro v o1 ⟨hv, hf1, hr1, hr2⟩
      subst hv
      rw [hsq] at hr1 ⊢
      by_cases hT : x ^ (2 * E) < TOP
      · rw [if_pos hT] at hr1
        rw [decide_eq_true hT]
        obtain ⟨v4, h5⟩ := hr2
        have hf2 := hf.trans hf1
        have hp2 := hp.fr hf2 ⟨by dsimp only; omega, by dsimp only; omega, trivial⟩ ⟨by dsimp only; omega, by dsimp only; omega, trivial⟩
        have hx2 := hx.fr hf2 ⟨by dsimp only; omega, by dsimp only; omega, trivial⟩ ⟨by dsimp only; omega, by dsimp only; omega, trivial⟩
        refine RW.ifc (fun _ => ?_) (fun h6 => absurd (xi_ne.mpr (by decide)) h6)
        refine RW.weak (lv0 := [.ref P, .ref a, .int nw, .int kw]) ⟨Or.inr rfl, Or.inr rfl, Or.inr rfl, Or.inr rfl, trivial⟩ ?_
        refine RW.sk [] rfl ?_
        refine RW.ps 3 rfl ?_
        refine RW.top (congrArg Value.int ((show nw >>> (kw &&& 31) = Int32.ofInt ((n / 2 ^ m : Nat) : Int) by rw [hnw]; exact m_shr (n := n) hk (by omega) hn2))) ?_
        refine RW.ps 2 rfl ?_
        have hq : n / 2 ^ m < 2147483648 := by omega
        refine RW.top (congrArg Value.int (m_and1 (a := n / 2 ^ m) (by omega))) ?_
        refine RW.ps 1 rfl ?_
        have hnx : ∀ kw2 : Int32, kw2 = kw + (-1) → ∀ w, Fr [(P + 1, 2), (P + 5, 2)] o w → Rn w (P + 1) (x ^ (n / 2 ^ m)) → x ^ (n / 2 ^ m) < TOP → Rx w (P + 5) → RW (fun r o' => ∃ v, r = .inl (some v) ∧ (v = .int (sg (decide (x ^ n < TOP))) ∧ Fr [(P + 1, 2), (P + 5, 2)] o o' ∧ Rx o' (P + 1) ∧ Rx o' (P + 5) ∧ (x ^ n < TOP → Rn o' (P + 1) (x ^ n)))) y_Powers_raise (xbk y_Powers_raise 51) [.ref P, .ref a, .int nw, .int kw] [] w := by
          intro kw2 hkw2 w g1 g2 g3 g4
          refine RW.ps 1 rfl ?_
          refine RW.go ?_
          exact ih (kw + (-1)) (by rw [← Int32.sub_eq_add_neg]; exact i_subnat hk (by omega)) (by omega) w g1 g2 g3 g4
        refine RW.icm (fun h6 => ?_) (fun h6 => ?_)
        · rw [xi_ne, iu (by omega), show (1 : Int32).toInt = 1 from rfl] at h6
          have he : n / 2 ^ m = 2 * E := by omega
          refine RW.weak (lv0 := [.ref P, .ref a, .int nw, .int kw]) ⟨Or.inr rfl, Or.inr rfl, Or.inr rfl, Or.inr rfl, trivial⟩ ?_
          refine RW.sk [] rfl ?_
          refine hnx _ rfl _ hf2 ?_ ?_ ⟨_, h5⟩
          · rw [he]; exact hr1
          · rw [he]; exact hT
        · rw [xi_ne, iu (by omega), show (1 : Int32).toInt = 1 from rfl] at h6
          have he : n / 2 ^ m = 2 * E + 1 := by omega
          refine RW.weak (lv0 := [.ref P, .ref a, .int nw, .int kw]) ⟨Or.inr rfl, Or.inr rfl, Or.inr rfl, Or.inr rfl, trivial⟩ ?_
          refine RW.sk [] rfl ?_
          refine RW.ps 2 rfl ?_
          refine RW.cq rfl rfl (xrc_v rfl rfl hp2.1) rfl rfl (c_multiply hp2 hr1 h5 hx2 (by omega) hT hxT) ?_
          intro v o2 ⟨hv, hf3, hr3, hr4⟩
          subst hv
          have hsq2 : x ^ (2 * E) * x = x ^ (n / 2 ^ m) := by rw [he, Nat.pow_succ]
          rw [hsq2] at hr3 ⊢
          by_cases hT2 : x ^ (n / 2 ^ m) < TOP
          · rw [if_pos hT2] at hr3
            rw [decide_eq_true hT2]
            refine RW.ifc (fun _ => ?_) (fun h6 => absurd (xi_ne.mpr (by decide)) h6)
            refine RW.weak (lv0 := [.ref P, .ref a, .int nw, .int kw]) ⟨Or.inr rfl, Or.inr rfl, Or.inr rfl, Or.inr rfl, trivial⟩ ?_
            refine RW.sk [] rfl ?_
            exact hnx _ rfl _ (hf2.trans hf3) hr3 hT2 hr4
          · rw [if_neg hT2] at hr3
            rw [decide_eq_false hT2]
            refine RW.ifc (fun h6 => absurd (xi_ne.mp h6) (by decide)) (fun _ => ?_)
            refine RW.ps 1 rfl ?_
            refine RW.re rfl rfl ⟨_, rfl, ?_, hf2.trans hf3, ⟨_, hr3⟩, hr4, fun h => absurd h (pow_top hle1 hT2)⟩
            rw [decide_eq_false (pow_top hle1 hT2)]; rfl
      · rw [if_neg hT] at hr1
        rw [decide_eq_false hT]
        have hT3 : ¬ x ^ n < TOP := pow_top (e := 2 * E) (by omega) hT
        refine RW.ifc (fun h6 => absurd (xi_ne.mp h6) (by decide)) (fun _ => ?_)
        refine RW.ps 1 rfl ?_
        refine RW.re rfl rfl ⟨_, rfl, ?_, hf.trans hf1, ⟨_, hr1⟩, hr2, fun h => absurd h hT3⟩
        rw [decide_eq_false hT3]; rfl
  have h1T : 1 < TOP := by unfold TOP; exact Nat.one_lt_two_pow (by decide)
  refine RW.ps 1 rfl ?_
  refine RW.gf hp.1 hp.2.1 ?_
  refine RW.ps 1 rfl ?_
  refine RW.cv rfl rfl (xrc_v rfl rfl ha.1.1) rfl rfl (c_becomeLong (n := 1) ha (by decide)) ?_
  intro o1 ho1
  have f1 : Fr [(P + 1, 2), (P + 5, 2)] o o1 := by subst ho1; exact Fr.up Fr.num (fun b hb => ⟨by have := hb.1; dsimp only at this ⊢; omega, trivial⟩)
  have ha1 : Rn o1 (P + 1) 1 := by subst ho1; exact Rn.num ha (Nat.lt_trans h1T top_big)
  have hp1 : Rn o1 (P + 5) vp := by subst ho1; exact hpr.ne (by omega)
  clear ho1
  refine RW.weak (lv0 := [.ref P, .ref a, .int nw, xj]) ⟨Or.inr rfl, Or.inr rfl, Or.inr rfl, Or.inl rfl, trivial⟩ ?_
  refine RW.sk [] rfl ?_
  refine RW.ps 1 rfl ?_
  refine RW.top (congrArg Value.int (hnw)) ?_
  refine RW.cp rfl rfl rfl rfl rfl (c_bitsOf' hn2) ?_
  refine RW.ps 3 rfl ?_
  refine RW.weak (lv0 := [.ref P, .ref a, .int nw, .int (Int32.ofInt (nbit n : Nat) - 1)]) ⟨Or.inr rfl, Or.inr rfl, Or.inr rfl, Or.inr rfl, trivial⟩ ?_
  refine RW.sk [] rfl ?_
  have h0 : n / 2 ^ nbit n = 0 := Nat.div_eq_of_lt (nbit_self n)
  refine loop (nbit n) _ (i_subnat (iu (by omega)) (by omega)) hnb o1 f1 ?_ ?_ ⟨_, hp1⟩
  · rw [h0]; exact ha1
  · rw [h0]; exact h1T
