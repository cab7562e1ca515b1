/-! DIVISORS: decideSteps. -/
theorem z_div {x y : Int} (hx : 0 ≤ x) (hx2 : x < 9223372036854775808) (hy : 0 < y) (hy2 : y < 9223372036854775808) : Int64.ofInt x / Int64.ofInt y = Int64.ofInt (x / y) := by
  obtain ⟨u, rfl⟩ := Int.eq_ofNat_of_zero_le hx
  obtain ⟨v, rfl⟩ := Int.eq_ofNat_of_zero_le (Int.le_of_lt hy)
  rw [n_div (by omega) (by omega)]; rfl
theorem l_ne0 {x : Int} (hx : 0 < x) (hx2 : x < 9223372036854775808) : ¬ Int64.ofInt x = 0 := by
  intro h
  have := (li_eq (a := x) (b := 0) (by omega) hx2 (by decide) (by decide)).mp h
  omega
theorem imax0 {n : Nat} (h : n < 2147483648) : (if (0 : Int32) < Int32.ofInt (n : Int) - 62 then Int32.ofInt (n : Int) - 62 else 0) = Int32.ofInt ((n - 62 : Nat) : Int) := by
  have e : Int32.ofInt (n : Int) - 62 = Int32.ofInt ((n : Int) - 62) := by rw [show (62 : Int32) = Int32.ofInt 62 by decide, ii_sub]
  rw [e]
  have e2 : (0 : Int32) < Int32.ofInt ((n : Int) - 62) ↔ (0 : Int) < (n : Int) - 62 := by
    rw [Int32.lt_iff_toInt_lt, ii_toInt (by omega) (by omega), i0]
  by_cases k : (0 : Int) < (n : Int) - 62
  · rw [if_pos (e2.mpr k)]; congr 1; omega
  · rw [if_neg (fun z => k (e2.mp z)), show n - 62 = 0 by omega]; rfl
theorem c_decideSteps {o : xO} {D A B : Nat} (hD : IsDs o D) (hA : Rn o (D + 1) A) (hB : Rn o (D + 3) B) (hBA : B ≤ A) :
    Cv y_Divisors_decideSteps [.ref D] o (fun o' => Fr [(D, 1)] o o' ∧ IsDs o' D ∧ ∃ P a b c d h s X Y, 0 < P ∧ LI A B P a b c d h s X Y ∧ Fac o' D a b c d) := by
  have hnb := nbit_big hA.2.1
  have hnA := nbit_self A
  have loop : ∀ (P : Int), 0 < P → ∀ (m : Nat) (iw : Int32) a b c d h s X Y, iw.toInt + (m : Int) = 100 → LI A B P a b c d h s X Y → ∀ o1, Fr [(D, 1)] o o1 → IsDs o1 D → Fac o1 D a b c d →
      RW (fun r o' => r = .inl none ∧ (Fr [(D, 1)] o o' ∧ IsDs o' D ∧ ∃ P a b c d h s X Y, 0 < P ∧ LI A B P a b c d h s X Y ∧ Fac o' D a b c d)) y_Divisors_decideSteps (xbk y_Divisors_decideSteps 57)
        [.ref D, xj, .long (Int64.ofInt h), xj, .long (Int64.ofInt s), xj, .int iw, xj, xj, xj, xj, xj, xj, xj, xj] [] o1 := by
    intro P hP m
    induction m with
    | zero =>
      intro iw a b c d h s X Y hi hL o1 hf hd hF
      refine RW.ps 2 rfl ?_
      refine RW.icm (fun _ => ?_) (fun k => ?_)
      · exact RW.re rfl rfl ⟨rfl, hf, hd, P, a, b, c, d, h, s, X, Y, hP, hL, hF⟩
      · rw [xi_ge, show (100 : Int32).toInt = 100 from rfl] at k; omega
    | succ m ih =>
      intro iw a b c d h s X Y hi hL o1 hf hd hF
      have hL' := hL
      obtain ⟨⟨i1, i2, i3, i4⟩, ⟨i5, i6⟩, ⟨i7, i8, i9, i10, i11, i12, i13, i14⟩, hs, -⟩ := hL'
      unfold M62 at i2 i4
      have hall : -M31 ≤ a ∧ a ≤ M31 ∧ -M31 ≤ b ∧ b ≤ M31 ∧ -M31 ≤ c ∧ c ≤ M31 ∧ -M31 ≤ d ∧ d ≤ M31 := ⟨i7, i8, i9, i10, i11, i12, i13, i14⟩
      unfold M31 at i7 i8 i9 i10 i11 i12 i13 i14
      have hend : (fun r (o' : xO) => r = (Sum.inl none : xR) ∧ (Fr [(D, 1)] o o' ∧ IsDs o' D ∧ ∃ P a b c d h s X Y, 0 < P ∧ LI A B P a b c d h s X Y ∧ Fac o' D a b c d)) (.inl none) o1 := ⟨rfl, hf, hd, P, a, b, c, d, h, s, X, Y, hP, hL, hF⟩
      refine RW.ps 2 rfl ?_
      refine RW.icm (fun k => ?_) (fun _ => ?_)
      · exact RW.re rfl rfl hend
      refine RW.ps 2 rfl ?_
      refine RW.gf hd.1 hF.2.2.1 ?_
      refine RW.ps 1 rfl ?_
      refine RW.top (congrArg Value.long (li_add s c)) ?_
      refine RW.ps 3 rfl ?_
      refine RW.gf hd.1 hF.2.2.2 ?_
      refine RW.ps 1 rfl ?_
      refine RW.top (congrArg Value.long (li_add s d)) ?_
      refine RW.ps 4 rfl ?_
      refine RW.weak (lv0 := [.ref D, xj, .long (Int64.ofInt h), xj, .long (Int64.ofInt s), xj, .int iw, .long (Int64.ofInt (s + c)), xj, .long (Int64.ofInt (s + d)), xj, xj, xj, xj, xj]) ⟨Or.inr rfl, Or.inl rfl, Or.inr rfl, Or.inl rfl, Or.inr rfl, Or.inl rfl, Or.inr rfl, Or.inr rfl, Or.inl rfl, Or.inr rfl, Or.inl rfl, Or.inl rfl, Or.inl rfl, Or.inl rfl, Or.inl rfl, trivial⟩ ?_
      refine RW.sk [.int (lg_cmp (Int64.ofInt (s + c)) 0)] rfl ?_
      refine RW.ifc (fun _ => ?_) (fun k1 => ?_)
      · exact RW.re rfl rfl hend
      have k1 : 0 < s + c := Int.not_le.mp (fun z => k1 ((lcmp_leZ (a := s + c) (b := 0) (by omega) (by omega) (by decide) (by decide)).mpr z))
      refine RW.ps 3 rfl ?_
      refine RW.ifc (fun k2 => ?_) (fun _ => RW.re rfl rfl hend)
      have k2 : 0 < s + d := (lcmp_gtZ (a := s + d) (b := 0) (by omega) (by omega) (by decide) (by decide)).mp k2
      refine RW.ps 2 rfl ?_
      refine RW.gf hd.1 hF.1 ?_
      refine RW.ps 1 rfl ?_
      refine RW.top (congrArg Value.long (li_add h a)) ?_
      refine RW.ps 1 rfl ?_
      refine RW.ldv (l_ne0 k1 (by omega)) ?_
      refine RW.top (congrArg Value.long (z_div i5 (by omega) k1 (by omega))) ?_
      refine RW.ps 4 rfl ?_
      refine RW.gf hd.1 hF.2.1 ?_
      refine RW.ps 1 rfl ?_
      refine RW.top (congrArg Value.long (li_add h b)) ?_
      refine RW.ps 1 rfl ?_
      refine RW.ldv (l_ne0 k2 (by omega)) ?_
      refine RW.top (congrArg Value.long (z_div i6 (by omega) k2 (by omega))) ?_
      refine RW.ps 1 rfl ?_
      have q1 : 0 ≤ (h + a) / (s + c) := Int.ediv_nonneg i5 (by omega)
      have q2 : (h + a) / (s + c) ≤ h + a := Int.ediv_le_self _ i5
      have q3 : 0 ≤ (h + b) / (s + d) := Int.ediv_nonneg i6 (by omega)
      have q4 : (h + b) / (s + d) ≤ h + b := Int.ediv_le_self _ i6
      generalize hq : (h + a) / (s + c) = q at *
      refine RW.weak (lv0 := [.ref D, xj, .long (Int64.ofInt h), xj, .long (Int64.ofInt s), xj, .int iw, xj, xj, xj, xj, .long (Int64.ofInt q), xj, xj, xj]) ⟨Or.inr rfl, Or.inl rfl, Or.inr rfl, Or.inl rfl, Or.inr rfl, Or.inl rfl, Or.inr rfl, Or.inl rfl, Or.inl rfl, Or.inl rfl, Or.inl rfl, Or.inr rfl, Or.inl rfl, Or.inl rfl, Or.inl rfl, trivial⟩ ?_
      refine RW.sk [.int (lg_cmp (Int64.ofInt q) (Int64.ofInt ((h + b) / (s + d))))] rfl ?_
      refine RW.ifc (fun _ => ?_) (fun k3 => ?_)
      · exact RW.re rfl rfl hend
      have k3 : q = (h + b) / (s + d) := Classical.not_not.mp (fun z => k3 ((lcmp_neZ (by omega) (by omega) (by omega) (by omega)).mpr z))
      refine RW.ps 2 rfl ?_
      refine RW.cq rfl rfl (xrc_v rfl rfl hd.1) rfl rfl (c_stepFits hd hF hall q1 (by omega)) ?_
      intro v o2 hv
      rcases hv with ⟨rfl, rfl⟩ | ⟨rfl, ⟨b1, b2, b3, b4⟩, hf2, hd2, hF2⟩
      · refine RW.ifc (fun k => absurd rfl k) (fun _ => ?_)
        exact RW.re rfl rfl hend
      refine RW.ifc (fun _ => ?_) (fun k => absurd (show ¬ (1 : Int32) = 0 by decide) k)
      refine RW.ps 11 rfl ?_
      refine RW.go ?_
      refine RW.weak (lv0 := [.ref D, xj, .long (Int64.ofInt s), xj, .long (Int64.ofInt (h - q * s)), xj, .int (iw + 1), xj, xj, xj, xj, xj, xj, xj, xj]) ⟨Or.inr rfl, Or.inl rfl, Or.inr rfl, Or.inl rfl, Or.inr (congrArg Value.long (by rw [li_mul, li_sub])), Or.inl rfl, Or.inr rfl, Or.inl rfl, Or.inl rfl, Or.inl rfl, Or.inl rfl, Or.inl rfl, Or.inl rfl, Or.inl rfl, Or.inl rfl, trivial⟩ ?_
      refine RW.sk [] rfl ?_
      refine ih (iw + 1) c d (a - q * c) (b - q * d) s (h - q * s) Y (X - q * Y) ?_ (hL.step hP k1 k2 hq.symm k3 b1 b2 b3 b4) o2 (hf.trans hf2) hd2 hF2
      have hi2 := iw.le_toInt
      have e1 : (iw + 1).toInt = iw.toInt + 1 := by
        rw [Int32.toInt_add, show (1 : Int32).toInt = 1 from rfl]
        exact Int.bmod_eq_of_le (by omega) (by omega)
      omega
  refine RW.ps 2 rfl ?_
  refine RW.gf hD.1 hD.2.1 ?_
  refine RW.cp rfl rfl (xrc_v rfl rfl hA.1.1) rfl rfl (c_bits hA) ?_
  refine RW.ps 2 rfl ?_
  refine RW.mmax (by decide) ?_
  refine RW.top (congrArg Value.int (imax0 (by omega))) ?_
  generalize hp : nbit A - 62 = p
  refine RW.ps 2 rfl ?_
  refine RW.gf hD.1 hD.2.1 ?_
  refine RW.ps 1 rfl ?_
  have hAp : A / 2 ^ p < 2 ^ 62 := by
    rw [Nat.div_lt_iff_lt_mul (Nat.two_pow_pos p), ← Nat.pow_add]
    exact Nat.lt_of_lt_of_le hnA (Nat.pow_le_pow_right (by decide) (by omega))
  have hBp : B / 2 ^ p < 2 ^ 62 := Nat.lt_of_le_of_lt (Nat.div_le_div_right hBA) hAp
  refine RW.cp rfl rfl (xrc_v rfl rfl hA.1.1) rfl rfl (c_head hA (iu (u := p) (by omega)) (by omega) hAp) ?_
  refine RW.ps 2 rfl ?_
  refine RW.gf hD.1 hD.2.2.1 ?_
  refine RW.ps 1 rfl ?_
  refine RW.cp rfl rfl (xrc_v rfl rfl hB.1.1) rfl rfl (c_head hB (iu (u := p) (by omega)) (by omega) hBp) ?_
  refine RW.ps 3 rfl ?_
  have hst := LI.start hBA hAp
  generalize A / 2 ^ p = h0 at *
  generalize B / 2 ^ p = s0 at *
  refine RW.pf hD.1 rfl rfl ?_
  have d1 := hD.pf (k := 3) (v := .long 1) (by decide)
  have f1 : Fr [(D, 1)] o (xpf o D 3 (.long 1)) := Fr.pf
  have e1 : xf (xpf o D 3 (.long 1)) D 3 = .long (Int64.ofInt 1) := xpf_same
  generalize xpf o D 3 (.long 1) = o1 at *
  refine RW.ps 2 rfl ?_
  refine RW.pf d1.1 rfl rfl ?_
  have d2 := d1.pf (k := 4) (v := .long 0) (by decide)
  have f2 : Fr [(D, 1)] o (xpf o1 D 4 (.long 0)) := f1.trans Fr.pf
  have e3 : xf (xpf o1 D 4 (.long 0)) D 3 = .long (Int64.ofInt 1) := (xpf_ne (fun _ => by decide)).trans e1
  have e4 : xf (xpf o1 D 4 (.long 0)) D 4 = .long (Int64.ofInt 0) := xpf_same
  generalize xpf o1 D 4 (.long 0) = o2 at *
  refine RW.ps 2 rfl ?_
  refine RW.pf d2.1 rfl rfl ?_
  have d3 := d2.pf (k := 5) (v := .long 0) (by decide)
  have f3 : Fr [(D, 1)] o (xpf o2 D 5 (.long 0)) := f2.trans Fr.pf
  have e5 : xf (xpf o2 D 5 (.long 0)) D 3 = .long (Int64.ofInt 1) := (xpf_ne (fun _ => by decide)).trans e3
  have e6 : xf (xpf o2 D 5 (.long 0)) D 4 = .long (Int64.ofInt 0) := (xpf_ne (fun _ => by decide)).trans e4
  have e7 : xf (xpf o2 D 5 (.long 0)) D 5 = .long (Int64.ofInt 0) := xpf_same
  generalize xpf o2 D 5 (.long 0) = o3 at *
  refine RW.ps 2 rfl ?_
  refine RW.pf d3.1 rfl rfl ?_
  have d4 := d3.pf (k := 6) (v := .long 1) (by decide)
  have f4 : Fr [(D, 1)] o (xpf o3 D 6 (.long 1)) := f3.trans Fr.pf
  have hF : Fac (xpf o3 D 6 (.long 1)) D 1 0 0 1 := ⟨(xpf_ne (fun _ => by decide)).trans e5, (xpf_ne (fun _ => by decide)).trans e6, (xpf_ne (fun _ => by decide)).trans e7, xpf_same⟩
  generalize xpf o3 D 6 (.long 1) = o4 at *
  refine RW.ps 2 rfl ?_
  refine RW.weak (lv0 := [.ref D, xj, .long (Int64.ofInt (h0 : Nat)), xj, .long (Int64.ofInt (s0 : Nat)), xj, .int 0, xj, xj, xj, xj, xj, xj, xj, xj]) ⟨Or.inr rfl, Or.inl rfl, Or.inr rfl, Or.inl rfl, Or.inr rfl, Or.inl rfl, Or.inr rfl, Or.inl rfl, Or.inl rfl, Or.inl rfl, Or.inl rfl, Or.inl rfl, Or.inl rfl, Or.inl rfl, Or.inl rfl, trivial⟩ ?_
  refine RW.sk [] rfl ?_
  exact loop _ (by have := Nat.two_pow_pos p; omega) 100 0 1 0 0 1 _ _ _ _ rfl hst o4 f4 d4 hF
