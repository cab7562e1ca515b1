/-! THE REFERENCE'S CALLS: up, down, shift. -/
theorem d16_shift (X p j : Nat) : d16 (X * 65536 ^ p) j = if j < p then 0 else d16 X (j - p) := by
  by_cases h : j < p
  · rw [if_pos h]
    obtain ⟨e, rfl⟩ : ∃ e, p = j + (1 + e) := ⟨p - j - 1, by omega⟩
    unfold d16
    rw [Nat.pow_add, ← Nat.mul_assoc, Nat.mul_comm (X * 65536 ^ j), ← Nat.mul_assoc, Nat.mul_div_cancel _ (pow16_pos j), Nat.pow_add, Nat.pow_one, Nat.mul_assoc, Nat.mul_mod_right]
  · rw [if_neg h]
    obtain ⟨e, rfl⟩ : ∃ e, j = p + e := ⟨j - p, by omega⟩
    unfold d16
    rw [Nat.pow_add, ← Nat.div_div_eq_div_mul, Nat.mul_div_cancel _ (pow16_pos p), Nat.add_sub_cancel_left]
theorem pow_split (n : Nat) : 2 ^ n = 2 ^ (n % 16) * 65536 ^ (n / 16) := by rw [b16, ← Nat.pow_add]; congr 1; omega
section C6
variable {o0 o o' : xO} {Y c a n x : Nat} {z : Nat → Int} {t p : List Int32}
theorem c_up {nw : Int32} (h : Mn o a 1200 x) (hn : nw.toInt = (n : Int)) (hx : n16 x ≤ 512) (hn2 : n ≤ 9000) : Cv y_M_up [.ref a, .int nw] o (fun o' => Fr [(a, 1)] o o' ∧ Mn o' a 1200 (x * 2 ^ n)) := by
  have hnw := i_of hn
  have hpl : 2 ^ (n % 16) ≤ 2 ^ 15 := Nat.pow_le_pow_right (by decide) (by omega)
  have hpp := Nat.two_pow_pos (n % 16)
  refine RW.ps 2 rfl ?_
  refine RW.idv (by decide) ?_
  refine RW.top (congrArg Value.int ((show nw / 16 = Int32.ofInt ((n / 16 : Nat) : Int) by rw [hnw, i16n]; exact i_div (by omega) (by decide)))) ?_
  refine RW.ps 3 rfl ?_
  refine RW.irm (by decide) ?_
  refine RW.top (congrArg Value.int ((show nw - nw / 16 * 16 = Int32.ofInt ((n % 16 : Nat) : Int) by rw [hnw, i16n]; exact i_rem (by omega) (by decide)))) ?_
  refine RW.ps 3 rfl ?_
  refine RW.ia h.1 i0n (by omega) ?_
  rw [h.2.2.2.1]
  refine RW.ifc (fun k => ?_) (fun k => ?_)
  rotate_left
  · rw [xi_ne, iu (by omega), i0] at k
    have h0 := n16_zero.mp (show n16 x = 0 by omega)
    refine RW.re rfl rfl ⟨rfl, Fr.refl _ _, ?_⟩
    rw [h0, Nat.zero_mul, ← h0]; exact h
  rw [xi_ne, iu (by omega), i0] at k
  have hx0 : x ≠ 0 := fun z => k (by rw [n16_zero.mpr z]; rfl)
  refine RW.weak (lv0 := [.ref a, .int nw, .int (Int32.ofInt ((n / 16 : Nat) : Int)), .int (Int32.ofInt ((n % 16 : Nat) : Int)), xj]) ⟨Or.inr rfl, Or.inr rfl, Or.inr rfl, Or.inr rfl, Or.inl rfl, trivial⟩ ?_
  refine RW.sk [] rfl ?_
  refine RW.ps 4 rfl ?_
  refine RW.top (congrArg Value.int ((show (1 : Int32) <<< (Int32.ofInt ((n % 16 : Nat) : Int) &&& 31) = Int32.ofInt ((2 ^ (n % 16) : Nat) : Int) by rw [show (1 : Int32) = Int32.ofInt ((1 : Nat) : Int) by decide, m_shl 1 (iu (u := n % 16) (by omega)) (by omega), Nat.one_mul]))) ?_
  refine RW.ps 1 rfl ?_
  refine RW.cv rfl rfl rfl rfl rfl (c_mscale h (by decide) (iu (u := 2 ^ (n % 16)) (by omega)) (gw := 0) (g := 0) rfl hpp (by omega) (by decide) (by omega)) ?_
  intro o2 ⟨f2, m2⟩
  rw [Nat.add_zero (x * _)] at m2
  have hX1 : x * 2 ^ (n % 16) < 65536 ^ 513 := by
    have h1 : x < 65536 ^ 512 := n16_le.mp hx
    have h2 := Nat.mul_lt_mul'' h1 (show 2 ^ (n % 16) < 65536 by omega)
    rw [← Nat.pow_succ] at h2
    exact h2
  have hN := n16_le.mpr hX1
  have hXX : x * 2 ^ n = x * 2 ^ (n % 16) * 65536 ^ (n / 16) := by rw [pow_split n, Nat.mul_assoc]
  have hX10 : x * 2 ^ (n % 16) ≠ 0 := Nat.mul_ne_zero hx0 (by omega)
  rw [hXX]
  have hnp : n / 16 ≤ 562 := by omega
  clear hXX
  generalize x * 2 ^ (n % 16) = X at *
  generalize n / 16 = q at *
  generalize hNN : n16 X = N at *
  have ka : ∀ w, Fr [(a, 1)] o w → xk w a = (1, 1200) := fun w hf => hf.k.trans h.1
  have h54 : ∀ e k (kw : Int32) w, k + e = q → kw.toInt = ((k + 1 : Nat) : Int) → Fr [(a, 1)] o w → xi w a 0 = Int32.ofInt (N : Nat) → (∀ j, j < k → xi w a (j + 1) = 0) → (∀ j, j < N → xi w a (j + q + 1) = Int32.ofInt (d16 X j : Nat)) → RW (fun r o' => r = .inl none ∧ (Fr [(a, 1)] o o' ∧ Mn o' a 1200 (X * 65536 ^ q))) y_M_up (xbk y_M_up 54) [.ref a, .int nw, .int (Int32.ofInt (q : Nat)), xj, .int kw] [] w := by
    intro e
    induction e with
    | zero =>
      intro k kw w hk hkw hf h0 hj1 hj2
      refine RW.ps 2 rfl ?_
      refine RW.icm (fun _ => ?_) (fun k2 => ?_)
      rotate_left
      · rw [xi_gt, iu (by omega), hkw] at k2; omega
      refine RW.ps 3 rfl ?_
      refine RW.ia (ka w hf) i0n (by omega) ?_
      rw [h0]
      refine RW.ps 2 rfl ?_
      refine RW.top (congrArg Value.int ((show Int32.ofInt (N : Nat) + Int32.ofInt (q : Nat) = Int32.ofInt ((N + q : Nat) : Int) by rw [ii_add]; rfl))) ?_
      refine RW.ist (k := 0) (ka w hf) i0n (by omega) ?_
      refine RW.re rfl rfl ⟨rfl, hf.pi1, ?_⟩
      have hXl : X < 65536 ^ N := n16_le.mp (by omega)
      have hl : X * 65536 ^ q < 65536 ^ (N + q) := by rw [Nat.pow_add]; exact Nat.mul_lt_mul_of_pos_right hXl (pow16_pos q)
      have hN0 : N ≠ 0 := fun z => hX10 (n16_zero.mp (by omega))
      have hnn : n16 (X * 65536 ^ q) = N + q := by
        obtain ⟨e, he⟩ : ∃ e, N + q = e + 1 := ⟨N + q - 1, by omega⟩
        rw [he] at hl ⊢
        refine n16_is hl ?_
        rw [d16_shift, if_neg (by omega)]
        have h1 := d16_top (x := X) (n := N - 1) (by omega)
        rw [show e - q = N - 1 by omega]; exact h1
      unfold Mn
      rw [hnn]
      refine ⟨ka w hf, by omega, hl, xpi_same, fun j hj => ?_⟩
      rw [xpi_ne (fun _ => by omega), d16_shift]
      by_cases hjq : j < q
      · rw [if_pos hjq]; exact hj1 j (by omega)
      · rw [if_neg hjq]
        have := hj2 (j - q) (by omega)
        rw [show j - q + q + 1 = j + 1 by omega] at this
        exact this
    | succ e ih =>
      intro k kw w hk hkw hf h0 hj1 hj2
      refine RW.ps 2 rfl ?_
      refine RW.icm (fun k2 => ?_) (fun _ => ?_)
      · rw [xi_gt, iu (by omega), hkw] at k2; omega
      refine RW.ps 3 rfl ?_
      refine RW.ist (k := k + 1) (ka w hf) hkw (by omega) ?_
      refine RW.ps 1 rfl ?_
      refine RW.go ?_
      refine ih (k + 1) (kw + 1) _ (by omega) (i_succ hkw (by omega)) hf.pi1 ((xpi_ne (fun _ => by omega)).trans h0) (fun j hj => ?_) (fun j hj => (xpi_ne (fun _ => by omega)).trans (hj2 j hj))
      by_cases hjk : j = k
      · subst hjk; exact xpi_same
      · rw [xpi_ne (fun _ => by omega)]; exact hj1 j (by omega)
  have h30 : ∀ k w, k ≤ N → Fr [(a, 1)] o w → xi w a 0 = Int32.ofInt (N : Nat) → (∀ j, j < k → xi w a (j + 1) = Int32.ofInt (d16 X j : Nat)) → (∀ j, k ≤ j → j < N → xi w a (j + q + 1) = Int32.ofInt (d16 X j : Nat)) → RW (fun r o' => r = .inl none ∧ (Fr [(a, 1)] o o' ∧ Mn o' a 1200 (X * 65536 ^ q))) y_M_up (xbk y_M_up 30) [.ref a, .int nw, .int (Int32.ofInt (q : Nat)), xj, .int (Int32.ofInt (k : Nat))] [] w := by
    intro k
    induction k with
    | zero =>
      intro w hk hf h0 hj1 hj2
      refine RW.ps 1 rfl ?_
      refine RW.ifc (fun _ => ?_) (fun k => absurd (xi_le.mpr (by decide)) k)
      refine RW.ps 2 rfl ?_
      refine RW.weak (lv0 := [.ref a, .int nw, .int (Int32.ofInt (q : Nat)), xj, .int 1]) ⟨Or.inr rfl, Or.inr rfl, Or.inr rfl, Or.inl rfl, Or.inr rfl, trivial⟩ ?_
      refine RW.sk [] rfl ?_
      exact h54 q 0 1 w (Nat.zero_add _) rfl hf h0 (fun j hj => absurd hj (Nat.not_lt_zero j)) (fun j hj => hj2 j (Nat.zero_le _) hj)
    | succ k ih =>
      intro w hk hf h0 hj1 hj2
      refine RW.ps 1 rfl ?_
      refine RW.ifc (fun k2 => ?_) (fun _ => ?_)
      · rw [xi_le, iu (by omega), i0] at k2; omega
      refine RW.ps 6 rfl ?_
      refine RW.ia (ka w hf) (iu (u := k + 1) (by omega)) (by omega) ?_
      rw [hj1 k (by omega)]
      refine RW.ist (k := k + q + 1) (ka w hf) (by rw [ii_add, ii_toInt (by omega) (by omega)]; omega) (by omega) ?_
      refine RW.ps 1 rfl ?_
      refine RW.go ?_
      refine RW.weak (lv0 := [.ref a, .int nw, .int (Int32.ofInt (q : Nat)), xj, .int (Int32.ofInt (k : Nat))]) ⟨Or.inr rfl, Or.inr rfl, Or.inr rfl, Or.inl rfl, Or.inr (congrArg Value.int (is1m k).symm), trivial⟩ ?_
      refine RW.sk [] rfl ?_
      refine ih _ (by omega) hf.pi1 ((xpi_ne (fun _ => by omega)).trans h0) (fun j hj => (xpi_ne (fun _ => by omega)).trans (hj1 j (by omega))) (fun j hk1 hj => ?_)
      by_cases hjk : j = k
      · subst hjk; exact xpi_same
      · rw [xpi_ne (fun _ => by omega)]; exact hj2 j (by omega) hj
  refine RW.ps 2 rfl ?_
  refine RW.ia m2.1 i0n (by omega) ?_
  rw [m2.2.2.2.1, hNN]
  refine RW.ps 1 rfl ?_
  refine RW.weak (lv0 := [.ref a, .int nw, .int (Int32.ofInt (q : Nat)), xj, .int (Int32.ofInt (N : Nat))]) ⟨Or.inr rfl, Or.inr rfl, Or.inr rfl, Or.inl rfl, Or.inr rfl, trivial⟩ ?_
  refine RW.sk [] rfl ?_
  exact h30 N o2 (Nat.le_refl _) f2 (by rw [m2.2.2.2.1, hNN]) (fun j hj => m2.2.2.2.2 j (by omega)) (fun j h1 h2 => absurd h2 (by omega))
theorem c_down {nw : Int32} (h : Mn o a 1200 x) (hn : nw.toInt = (n : Int)) (hn2 : n ≤ 9000) : Cq y_M_down [.ref a, .int nw] o (fun v o' => v = .int (sg (decide (x % 2 ^ n ≠ 0))) ∧ Fr [(a, 1)] o o' ∧ Mn o' a 1200 (x / 2 ^ n)) := by
  have hnw := i_of hn
  have hxL := h.2.1
  have hpl : 2 ^ (n % 16) ≤ 2 ^ 15 := Nat.pow_le_pow_right (by decide) (by omega)
  have hpp := Nat.two_pow_pos (n % 16)
  have hsp : 2 ^ n = 65536 ^ (n / 16) * 2 ^ (n % 16) := by rw [pow_split n, Nat.mul_comm]
  have hq : x / 2 ^ n = x / 65536 ^ (n / 16) / 2 ^ (n % 16) := by rw [hsp, Nat.div_div_eq_div_mul]
  have hm : x % 2 ^ n = x % 65536 ^ (n / 16) + 65536 ^ (n / 16) * (x / 65536 ^ (n / 16) % 2 ^ (n % 16)) := by rw [hsp, Nat.mod_mul]
  have hl16 : n % 16 < 16 := Nat.mod_lt _ (by decide)
  have erem : nw - nw / 16 * 16 = Int32.ofInt ((n % 16 : Nat) : Int) := by rw [hnw, i16n]; exact i_rem (by omega) (by decide)
  have hP := pow16_pos (n / 16)
  have hqb : n / 16 ≤ 562 := by omega
  generalize hqq : n / 16 = q at *
  generalize n % 16 = l at *
  -- the end
  have h49 : ∀ (off : Bool) l4, off = decide (x % 65536 ^ q ≠ 0) → RW (fun r o' => ∃ v, r = .inl (some v) ∧ (v = .int (sg (decide (x % 2 ^ n ≠ 0))) ∧ Fr [(a, 1)] o o' ∧ Mn o' a 1200 (x / 2 ^ n))) y_M_down (xbk y_M_down 49) [.ref a, .int nw, .int (Int32.ofInt (q : Nat)), .int (sg off), l4, xj] [] o := by
    intro off l4 hoff
    refine RW.weak (lv0 := [.ref a, .int nw, .int (Int32.ofInt (q : Nat)), .int (sg off), xj, xj]) ⟨Or.inr rfl, Or.inr rfl, Or.inr rfl, Or.inr rfl, Or.inl rfl, Or.inl rfl, trivial⟩ ?_
    refine RW.sk [] rfl ?_
    have hXl : x / 65536 ^ q < 65536 ^ (n16 x - q) := by
      rw [Nat.div_lt_iff_lt_mul hP, ← Nat.pow_add]
      exact Nat.lt_of_lt_of_le h.2.2.1 (Nat.pow_le_pow_right (by decide) (by omega))
    have h65 : RW (fun r o' => ∃ v, r = .inl (some v) ∧ (v = .int (sg (decide (x % 2 ^ n ≠ 0))) ∧ Fr [(a, 1)] o o' ∧ Mn o' a 1200 (x / 2 ^ n))) y_M_down (xbk y_M_down 65) [.ref a, .int nw, .int (Int32.ofInt (q : Nat)), .int (sg off), xj, xj] [.int (Int32.ofInt ((n16 x - q : Nat) : Int))] o := by
      have loop : ∀ e k (kw : Int32) w, k + e = n16 x - q → kw.toInt = ((k + 1 : Nat) : Int) → Fr [(a, 1)] o w → (∀ j, j < k → xi w a (j + 1) = Int32.ofInt (d16 (x / 65536 ^ q) j : Nat)) → (∀ j, k + q ≤ j → j < n16 x → xi w a (j + 1) = Int32.ofInt (d16 x j : Nat)) → RW (fun r o' => ∃ v, r = .inl (some v) ∧ (v = .int (sg (decide (x % 2 ^ n ≠ 0))) ∧ Fr [(a, 1)] o o' ∧ Mn o' a 1200 (x / 2 ^ n))) y_M_down (xbk y_M_down 70) [.ref a, .int nw, .int (Int32.ofInt (q : Nat)), .int (sg off), .int (Int32.ofInt ((n16 x - q : Nat) : Int)), .int kw] [] w := by
        intro e
        induction e with
        | zero =>
          intro k kw w hk hkw hf hj1 hj2
          refine RW.ps 2 rfl ?_
          refine RW.icm (fun _ => ?_) (fun k2 => ?_)
          rotate_left
          · rw [xi_gt, iu (by omega), hkw] at k2; omega
          refine RW.ps 3 rfl ?_
          refine RW.ist (k := 0) (hf.k.trans h.1) i0n (by omega) ?_
          have m2 : Mu (xpi w a 0 (Int32.ofInt ((n16 x - q : Nat) : Int))) a 1200 (n16 x - q) (x / 65536 ^ q) := ⟨hf.k.trans h.1, by omega, hXl, xpi_same, fun j hj => (xpi_ne (fun _ => by omega)).trans (hj1 j (by omega))⟩
          refine RW.ps 4 rfl ?_
          refine RW.irm (by decide) ?_
          refine RW.top (congrArg Value.int (erem)) ?_
          refine RW.ps 1 rfl ?_
          refine RW.top (congrArg Value.int ((show (1 : Int32) <<< (Int32.ofInt (l : Nat) &&& 31) = Int32.ofInt ((2 ^ l : Nat) : Int) by rw [show (1 : Int32) = Int32.ofInt ((1 : Nat) : Int) by decide, m_shl 1 (iu (u := l) (by omega)) (by omega), Nat.one_mul]))) ?_
          refine RW.cq rfl rfl rfl rfl rfl (c_divideSmall m2 (by decide) (iu (u := 2 ^ l) (by omega)) hpp (by omega)) ?_
          intro v o2 ⟨hv, f2, m3⟩
          subst hv
          have hml := Nat.mod_lt (x / 65536 ^ q) hpp
          have F2 := hf.pi1.trans f2
          rw [← hq] at m3
          have h115 : decide (x % 2 ^ n ≠ 0) = true → ∀ lv, RW (fun r o' => ∃ v, r = .inl (some v) ∧ (v = .int (sg (decide (x % 2 ^ n ≠ 0))) ∧ Fr [(a, 1)] o o' ∧ Mn o' a 1200 (x / 2 ^ n))) y_M_down (xbk y_M_down 115) lv [] o2 := by
            intro hd lv
            refine RW.ps 1 rfl ?_
            refine RW.go ?_
            rw [hd]
            exact RW.re rfl rfl ⟨_, rfl, rfl, F2, m3⟩
          refine RW.ifc (fun k2 => ?_) (fun k2 => ?_)
          · rw [xi_ne, iu (by omega), i0] at k2
            refine h115 (decide_eq_true ?_) _
            rw [hm]
            have : 1 * 1 ≤ 65536 ^ q * (x / 65536 ^ q % 2 ^ l) := Nat.mul_le_mul hP (by omega)
            omega
          · rw [xi_ne, iu (by omega), i0] at k2
            have hr0 : x / 65536 ^ q % 2 ^ l = 0 := by omega
            rw [hr0, Nat.mul_zero, Nat.add_zero] at hm
            refine RW.ps 1 rfl ?_
            refine RW.ifc (fun k3 => ?_) (fun k3 => ?_)
            · have hb := sg_bool.mp k3
              rw [hoff, ← hm] at hb
              refine RW.ps 1 rfl ?_
              rw [hb]
              exact RW.re rfl rfl ⟨_, rfl, rfl, F2, m3⟩
            · have hb := sgt k3
              rw [hoff, ← hm] at hb
              exact h115 hb _
        | succ e ih =>
          intro k kw w hk hkw hf hj1 hj2
          refine RW.ps 2 rfl ?_
          refine RW.icm (fun k2 => ?_) (fun _ => ?_)
          · rw [xi_gt, iu (by omega), hkw] at k2; omega
          refine RW.ps 6 rfl ?_
          refine RW.ia (hf.k.trans h.1) (k := k + q + 1) (by rw [i_of hkw, ii_add, ii_toInt (by omega) (by omega)]; omega) (by omega) ?_
          rw [hj2 (k + q) (by omega) (by omega)]
          refine RW.ist (k := k + 1) (hf.k.trans h.1) hkw (by omega) ?_
          refine RW.ps 1 rfl ?_
          refine RW.go ?_
          refine ih (k + 1) (kw + 1) _ (by omega) (i_succ hkw (by omega)) hf.pi1 (fun j hj => ?_) (fun j h1 h2 => (xpi_ne (fun _ => by omega)).trans (hj2 j (by omega) h2))
          by_cases hjk : j = k
          · subst hjk; rw [xpi_same, d16_wi, Nat.add_comm q j]
          · rw [xpi_ne (fun _ => by omega)]; exact hj1 j (by omega)
      refine RW.ps 3 rfl ?_
      refine RW.weak (lv0 := [.ref a, .int nw, .int (Int32.ofInt (q : Nat)), .int (sg off), .int (Int32.ofInt ((n16 x - q : Nat) : Int)), .int 1]) ⟨Or.inr rfl, Or.inr rfl, Or.inr rfl, Or.inr rfl, Or.inr rfl, Or.inr rfl, trivial⟩ ?_
      refine RW.sk [] rfl ?_
      exact loop _ 0 1 o (Nat.zero_add _) rfl (Fr.refl _ _) (fun j hj => absurd hj (Nat.not_lt_zero j)) (fun j _ h2 => h.2.2.2.2 j h2)
    refine RW.ps 2 rfl ?_
    refine RW.ia h.1 i0n (by omega) ?_
    rw [h.2.2.2.1]
    refine RW.ps 1 rfl ?_
    refine RW.icm (fun k2 => ?_) (fun k2 => ?_)
    · rw [xi_le, iu (by omega), iu (by omega)] at k2
      refine RW.ps 1 rfl ?_
      refine RW.weak (lv0 := [.ref a, .int nw, .int (Int32.ofInt (q : Nat)), .int (sg off), xj, xj]) ⟨Or.inr rfl, Or.inr rfl, Or.inr rfl, Or.inr rfl, Or.inl rfl, Or.inl rfl, trivial⟩ ?_
      refine RW.sk [.int 0] rfl ?_
      rw [show n16 x - q = 0 by omega] at h65
      exact h65
    · rw [xi_le, iu (by omega), iu (by omega)] at k2
      refine RW.ps 2 rfl ?_
      refine RW.ia h.1 i0n (by omega) ?_
      rw [h.2.2.2.1]
      refine RW.ps 2 rfl ?_
      refine RW.top (congrArg Value.int ((show Int32.ofInt (n16 x : Nat) - Int32.ofInt (q : Nat) = Int32.ofInt ((n16 x - q : Nat) : Int) by rw [ii_sub]; congr 1; omega))) ?_
      refine RW.go ?_
      exact h65
  have h10 : ∀ e k (kw : Int32) (off : Bool), k + e = q → kw.toInt = (k : Int) → k ≤ n16 x → off = decide (x % 65536 ^ k ≠ 0) → RW (fun r o' => ∃ v, r = .inl (some v) ∧ (v = .int (sg (decide (x % 2 ^ n ≠ 0))) ∧ Fr [(a, 1)] o o' ∧ Mn o' a 1200 (x / 2 ^ n))) y_M_down (xbk y_M_down 10) [.ref a, .int nw, .int (Int32.ofInt (q : Nat)), .int (sg off), .int kw, xj] [] o := by
    intro e
    induction e with
    | zero =>
      intro k kw off hk hkw hkn hoff
      refine RW.ps 2 rfl ?_
      refine RW.icm (fun _ => ?_) (fun k2 => ?_)
      rotate_left
      · rw [xi_ge, iu (by omega), hkw] at k2; omega
      exact h49 off _ (by rw [hoff, show k = q by omega])
    | succ e ih =>
      intro k kw off hk hkw hkn hoff
      refine RW.ps 2 rfl ?_
      refine RW.icm (fun k2 => ?_) (fun _ => ?_)
      · rw [xi_ge, iu (by omega), hkw] at k2; omega
      refine RW.ps 3 rfl ?_
      refine RW.ia h.1 i0n (by omega) ?_
      rw [h.2.2.2.1]
      refine RW.icm (fun k2 => ?_) (fun k2 => ?_)
      · rw [xi_ge, iu (by omega), hkw] at k2
        refine h49 off _ ?_
        have e1 : x % 65536 ^ k = x := Nat.mod_eq_of_lt (n16_le.mp (by omega))
        have e2 : x % 65536 ^ q = x := Nat.mod_eq_of_lt (n16_le.mp (by omega))
        rw [hoff, e1, e2]
      rw [xi_ge, iu (by omega), hkw] at k2
      have hstep := d16_step x k
      have hPk := pow16_pos k
      have h42 : ∀ cc : Bool, cc = decide (x % 65536 ^ (k + 1) ≠ 0) → RW (fun r o' => ∃ v, r = .inl (some v) ∧ (v = .int (sg (decide (x % 2 ^ n ≠ 0))) ∧ Fr [(a, 1)] o o' ∧ Mn o' a 1200 (x / 2 ^ n))) y_M_down (xbk y_M_down 42) [.ref a, .int nw, .int (Int32.ofInt (q : Nat)), .int (sg off), .int kw, xj] [.int (sg cc)] o := by
        intro cc hcc
        refine RW.ps 2 rfl ?_
        refine RW.go ?_
        exact ih (k + 1) (kw + 1) cc (by omega) (i_succ hkw (by omega)) (by omega) hcc
      have h37 : x % 65536 ^ (k + 1) ≠ 0 → RW (fun r o' => ∃ v, r = .inl (some v) ∧ (v = .int (sg (decide (x % 2 ^ n ≠ 0))) ∧ Fr [(a, 1)] o o' ∧ Mn o' a 1200 (x / 2 ^ n))) y_M_down (xbk y_M_down 37) [.ref a, .int nw, .int (Int32.ofInt (q : Nat)), .int (sg off), .int kw, xj] [] o := by
        intro hne
        refine RW.ps 1 rfl ?_
        refine RW.go ?_
        exact h42 true (decide_eq_true hne).symm
      refine RW.ps 1 rfl ?_
      refine RW.ifc (fun k3 => ?_) (fun k3 => ?_)
      · have hb := sg_boolne.mp k3
        rw [hoff] at hb
        have hb := of_decide_eq_true hb
        exact h37 (by omega)
      have hoff0 : off = false := by
        cases hc : off with
        | false => rfl
        | true => exact absurd (sg_boolne.mpr hc) k3
      have hx0 : x % 65536 ^ k = 0 := by
        rw [hoff0] at hoff
        exact Classical.not_not.mp (of_decide_eq_false hoff.symm)
      have hdk := d16_lt x k
      refine RW.ps 4 rfl ?_
      refine RW.ia h.1 (i_succ hkw (by omega)) (by omega) ?_
      rw [h.2.2.2.2 k (by omega)]
      refine RW.ifc (fun k4 => ?_) (fun k4 => ?_)
      · rw [xi_eq, iu (by omega), i0] at k4
        refine RW.ps 1 rfl ?_
        refine h42 false (decide_eq_false ?_).symm
        rw [hstep, hx0, show d16 x k = 0 by omega, Nat.zero_mul]; exact fun z => z rfl
      · rw [xi_eq, iu (by omega), i0] at k4
        refine h37 ?_
        rw [hstep, hx0]
        have : 1 * 1 ≤ d16 x k * 65536 ^ k := Nat.mul_le_mul (by omega) hPk
        omega
  refine RW.ps 2 rfl ?_
  refine RW.idv (by decide) ?_
  refine RW.top (congrArg Value.int ((show nw / 16 = Int32.ofInt (q : Nat) by rw [hnw, i16n, ← hqq]; exact i_div (by omega) (by decide)))) ?_
  refine RW.ps 5 rfl ?_
  refine RW.weak (lv0 := [.ref a, .int nw, .int (Int32.ofInt (q : Nat)), .int (sg false), .int 0, xj]) ⟨Or.inr rfl, Or.inr rfl, Or.inr rfl, Or.inr rfl, Or.inr rfl, Or.inl rfl, trivial⟩ ?_
  refine RW.sk [] rfl ?_
  exact h10 q 0 0 false (Nat.zero_add _) rfl (Nat.zero_le _) (by rw [Nat.pow_zero, Nat.mod_one]; rfl)
theorem ceil_div {X d : Nat} (hX : 0 < X) (hd : 0 < d) : (X - 1) / d + 1 = X / d + (if X % d ≠ 0 then 1 else 0) := by
  have h1 := Nat.div_add_mod X d
  have h2 := Nat.mod_lt X hd
  generalize X % d = r at *
  generalize hq : X / d = q at *
  by_cases h : r ≠ 0
  · rw [if_pos h]
    congr 1
    rw [show X - 1 = r - 1 + d * q by omega, Nat.add_mul_div_left _ _ hd, Nat.div_eq_of_lt (by omega), Nat.zero_add]
  · rw [if_neg h]
    have hr : r = 0 := Classical.not_not.mp h
    have hq0 : q ≠ 0 := fun z => by rw [z, Nat.mul_zero] at h1; omega
    obtain ⟨e, he⟩ : ∃ e, q = e + 1 := ⟨q - 1, by omega⟩
    subst he
    rw [Nat.mul_add, Nat.mul_one] at h1
    rw [show X - 1 = d - 1 + d * e by omega, Nat.add_mul_div_left _ _ hd, Nat.div_eq_of_lt (by omega), Nat.zero_add]
theorem c_mshift (h : MI o Y z t p c) {r a n : Int32} : Ct y_M_shift [.ref Y, .int r, .int a, .int n] o (MV o Y (s_shift z r a n) t p) := by
  have h := MS.start h
  have hbad : ¬ (okr r ∧ okr a ∧ -9000 ≤ n.toInt ∧ n.toInt ≤ 9000) → RW (MV o Y (s_shift z r a n) t p) y_M_shift (xbk y_M_shift 33) [.ref Y] [.ref Y] o := by
    intro hno
    refine RW.ps 1 rfl ?_
    refine RW.pf h.y rfl rfl ?_
    have h1 : MS o (xpf o Y 0 (.int 1)) Y z t p 1 := h.code 1
    refine RW.ps 1 rfl ?_
    refine RW.gf h1.y h1.cd ?_
    refine RW.ifc (fun k => absurd (xi_le.mp k) (by decide)) (fun _ => ?_)
    exact RW.re rfl rfl (h1.mv (if_neg hno))
  refine RW.ps 2 rfl ?_
  by_cases hr : ¬ okr r
  · refine RW.cp rfl rfl rfl rfl rfl (c_isRegister r) ?_
    rw [if_neg hr]
    refine RW.ifc (fun _ => ?_) (fun k => absurd (xi_eq.mpr rfl) k)
    refine RW.weak (lv0 := [.ref Y]) ⟨Or.inr rfl, trivial⟩ ?_
    exact hbad (fun k => hr k.1)
  have hr := Classical.not_not.mp hr
  refine RW.cp rfl rfl rfl rfl rfl (c_isRegister r) ?_
  rw [if_pos hr]
  refine RW.ifc (fun k => absurd (xi_eq.mp k) (by decide)) (fun _ => ?_)
  refine RW.ps 1 rfl ?_
  by_cases ha : ¬ okr a
  · refine RW.cp rfl rfl rfl rfl rfl (c_isRegister a) ?_
    rw [if_neg ha]
    refine RW.ifc (fun _ => ?_) (fun k => absurd (xi_eq.mpr rfl) k)
    refine RW.weak (lv0 := [.ref Y]) ⟨Or.inr rfl, trivial⟩ ?_
    exact hbad (fun k => ha k.2.1)
  have ha := Classical.not_not.mp ha
  refine RW.cp rfl rfl rfl rfl rfl (c_isRegister a) ?_
  rw [if_pos ha]
  refine RW.ifc (fun k => absurd (xi_eq.mp k) (by decide)) (fun _ => ?_)
  refine RW.ps 2 rfl ?_
  refine RW.icm (fun k => ?_) (fun k => ?_)
  · rw [xi_lt, show (-9000 : Int32).toInt = -9000 from rfl] at k
    refine RW.weak (lv0 := [.ref Y]) ⟨Or.inr rfl, trivial⟩ ?_
    exact hbad (fun q => by have := q.2.2.1; omega)
  rw [xi_lt, show (-9000 : Int32).toInt = -9000 from rfl] at k
  refine RW.ps 2 rfl ?_
  refine RW.icm (fun k2 => ?_) (fun k2 => ?_)
  · rw [xi_gt, show (9000 : Int32).toInt = 9000 from rfl] at k2
    refine RW.weak (lv0 := [.ref Y]) ⟨Or.inr rfl, trivial⟩ ?_
    exact hbad (fun q => by have := q.2.2.2; omega)
  rw [xi_gt, show (9000 : Int32).toInt = 9000 from rfl] at k2
  refine RW.ps 1 rfl ?_
  refine RW.go ?_
  refine RW.pf h.y rfl rfl ?_
  have h1 : MS o (xpf o Y 0 (.int 0)) Y z t p 0 := h.code 0
  refine RW.ps 1 rfl ?_
  refine RW.gf h1.y h1.cd ?_
  refine RW.ifc (fun _ => ?_) (fun k => absurd (xi_le.mpr (by decide)) k)
  generalize xpf o Y 0 (.int 0) = o1 at h1 ⊢
  have hsp : s_shift z r a n = keepV z r (shz n.toInt (z (rx a))) := if_pos ⟨hr, ha, by omega, by omega⟩
  rw [hsp]
  refine RW.weak (lv0 := [.ref Y, .int r, .int a, .int n]) ⟨Or.inr rfl, Or.inr rfl, Or.inr rfl, Or.inr rfl, trivial⟩ ?_
  refine RW.sk [] rfl ?_
  refine RW.ps 3 rfl ?_
  refine RW.gf h1.y h1.f3 ?_
  refine RW.cv rfl rfl (xrc_v rfl rfl h1.y) rfl rfl (c_mload h1 ha 3 (by decide)) ?_
  intro o2 ⟨h2, m2, f2⟩
  have na := h2.n ha
  have h98 : ∀ o3, MS o o3 Y z t p 0 → Mn o3 (Y + 3) 1200 (shz n.toInt (z (rx a))).natAbs → (shz n.toInt (z (rx a)) ≠ 0 → (z (rx a)).sign = (shz n.toInt (z (rx a))).sign) → RW (MV o Y (keepV z r (shz n.toInt (z (rx a)))) t p) y_M_shift (xbk y_M_shift 98) [.ref Y, .int r, .int a, .int n] [] o3 := by
    intro o3 h3 m3 hs
    refine RW.ps 3 rfl ?_
    refine RW.gf h3.y h3.f3 ?_
    refine RW.ps 1 rfl ?_
    refine RW.gf h3.y h3.f2 ?_
    refine RW.ps 1 rfl ?_
    refine RW.ia h3.k2 ha.ix ha.lt ?_
    rw [h3.sv ha]
    refine RW.cv rfl rfl (xrc_v rfl rfl h3.y) rfl rfl (c_keepIf h3 hr m3 (by decide) (by omega) (by omega) (by omega) (fun hne => by rw [hs hne])) ?_
    intro o4 h4
    exact RW.re rfl rfl h4.mvp
  have sva := h2.sv ha
  generalize hx : z (rx a) = x at *
  refine RW.weak (lv0 := [.ref Y, .int r, .int a, .int n]) ⟨Or.inr rfl, Or.inr rfl, Or.inr rfl, Or.inr rfl, trivial⟩ ?_
  refine RW.sk [] rfl ?_
  refine RW.ps 1 rfl ?_
  refine RW.ifc (fun k3 => ?_) (fun k3 => ?_)
  · rw [xi_lt, i0] at k3
    have hn : (-n).toInt = ((-n.toInt).toNat : Int) := by
      rw [Int32.toInt_neg, Int.bmod_eq_of_le (by omega) (by omega)]; omega
    have hsh : shz n.toInt x = uncore (core x / 2 ^ (-n.toInt).toNat) (neg x) := by unfold shz; rw [if_pos (by omega)]
    have he : (-n.toInt).toNat ≤ 9000 := by omega
    generalize (-n.toInt).toNat = e at *
    rw [hsh] at h98 ⊢
    have hp := Nat.two_pow_pos e
    refine RW.ps 1 rfl ?_
    refine RW.gf h2.y h2.f3 ?_
    refine RW.ps 2 rfl ?_
    refine RW.cq rfl rfl rfl rfl rfl (c_down m2 hn he) ?_
    intro v o3 ⟨hv, f3, m3⟩
    subst hv
    have h3 := h2.scr f3 (by omega) (by omega)
    rcases sgn_cases x with ⟨hs1, hs2⟩ | ⟨hs1, hs2⟩
    · have hcx : core x = x.natAbs - 1 := by unfold core; rw [hs1, if_pos rfl]
      have hceil := ceil_div (X := x.natAbs) (d := 2 ^ e) (by omega) hp
      have habs : (uncore (core x / 2 ^ e) (neg x)).natAbs = x.natAbs / 2 ^ e + (if x.natAbs % 2 ^ e ≠ 0 then 1 else 0) := by
        rw [hs1, hcx, ← hceil]
        show (-(((x.natAbs - 1) / 2 ^ e : Nat) + 1 : Int)).natAbs = _
        generalize (x.natAbs - 1) / 2 ^ e = g
        omega
      have hsgn : x.sign = (uncore (core x / 2 ^ e) (neg x)).sign := by
        rw [hs1, Int.sign_eq_neg_one_of_neg hs2]
        refine (Int.sign_eq_neg_one_of_neg ?_).symm
        show -((core x / 2 ^ e : Nat) + 1 : Int) < 0
        generalize core x / 2 ^ e = g
        omega
      by_cases hr0 : x.natAbs % 2 ^ e ≠ 0
      · rw [decide_eq_true hr0]
        rw [if_pos hr0] at habs
        refine RW.ifc (fun k4 => absurd (sg_bool.mp k4) (by decide)) (fun _ => ?_)
        refine RW.ps 1 rfl ?_
        refine RW.gf h3.y h3.f2 ?_
        refine RW.ps 1 rfl ?_
        refine RW.ia h3.k2 ha.ix ha.lt ?_
        rw [h3.sv ha, hx]
        refine RW.ifc (fun k4 => ?_) (fun _ => ?_)
        · have := sign_lt.mp k4; omega
        have hnq : n16 (x.natAbs / 2 ^ e) ≤ 512 := Nat.le_trans (n16_mono (Nat.div_le_self _ _)) na
        refine RW.ps 2 rfl ?_
        refine RW.gf h3.y h3.f3 ?_
        refine RW.cv rfl rfl (xrc_v rfl rfl h3.y) rfl rfl (c_addOne m3 (by decide) (by omega)) ?_
        intro o4 ⟨f4, m4⟩
        rw [← habs] at m4
        exact h98 o4 (h3.scr f4 (by omega) (by omega)) m4 (fun _ => hsgn)
      · rw [decide_eq_false hr0]
        rw [if_neg hr0, Nat.add_zero] at habs
        rw [← habs] at m3
        refine RW.ifc (fun _ => ?_) (fun k4 => absurd (sg_bool.mpr rfl) k4)
        exact h98 o3 h3 m3 (fun _ => hsgn)
    · have hcx : core x = x.natAbs := by unfold core; rw [hs1, if_neg Bool.false_ne_true]
      have habs : (uncore (core x / 2 ^ e) (neg x)).natAbs = x.natAbs / 2 ^ e := by
        rw [hs1, hcx]
        show ((x.natAbs / 2 ^ e : Nat) : Int).natAbs = _
        rw [Int.natAbs_natCast]
      have hsgn : uncore (core x / 2 ^ e) (neg x) ≠ 0 → x.sign = (uncore (core x / 2 ^ e) (neg x)).sign := by
        intro hne
        rw [hs1, hcx] at hne ⊢
        have hne : ((x.natAbs / 2 ^ e : Nat) : Int) ≠ 0 := hne
        show x.sign = ((x.natAbs / 2 ^ e : Nat) : Int).sign
        have hx0 : 0 < x := by
          rcases Int.lt_or_eq_of_le hs2 with k | k
          · exact k
          · rw [← k] at hne; exact absurd (by rw [show (0 : Int).natAbs = 0 from rfl, Nat.zero_div]; rfl) hne
        generalize x.natAbs / 2 ^ e = g at *
        rw [Int.sign_eq_one_of_pos hx0, Int.sign_eq_one_of_pos (by omega)]
      rw [← habs] at m3
      by_cases hr0 : x.natAbs % 2 ^ e ≠ 0
      · rw [decide_eq_true hr0]
        refine RW.ifc (fun k4 => absurd (sg_bool.mp k4) (by decide)) (fun _ => ?_)
        refine RW.ps 1 rfl ?_
        refine RW.gf h3.y h3.f2 ?_
        refine RW.ps 1 rfl ?_
        refine RW.ia h3.k2 ha.ix ha.lt ?_
        rw [h3.sv ha, hx]
        refine RW.ifc (fun _ => ?_) (fun k4 => absurd (sign_lt.mpr hs2) k4)
        exact h98 o3 h3 m3 hsgn
      · rw [decide_eq_false hr0]
        refine RW.ifc (fun _ => ?_) (fun k4 => absurd (sg_bool.mpr rfl) k4)
        exact h98 o3 h3 m3 hsgn
  · rw [xi_lt, i0] at k3
    have hn : n.toInt = (n.toInt.toNat : Int) := by omega
    have hsh : shz n.toInt x = mkz (x.natAbs * 2 ^ n.toInt.toNat) (neg x) := by unfold shz; rw [if_neg (by omega)]
    rw [hsh] at h98 ⊢
    generalize n.toInt.toNat = e at *
    refine RW.ps 1 rfl ?_
    refine RW.gf h2.y h2.f3 ?_
    refine RW.ps 1 rfl ?_
    refine RW.cv rfl rfl rfl rfl rfl (c_up m2 hn na (by omega)) ?_
    intro o3 ⟨f3, m3⟩
    have h3 := h2.scr f3 (by omega) (by omega)
    refine RW.go ?_
    have m3 : Mn o3 (Y + 3) 1200 (mkz (x.natAbs * 2 ^ e) (neg x)).natAbs := by rw [mkz_abs]; exact m3
    refine h98 o3 h3 m3 (fun hne => ?_)
    rw [mkz_sign hne, neg_sign]
    intro hx0
    rw [hx0, show (0 : Int).natAbs = 0 from rfl, Nat.zero_mul] at hne
    cases hc : neg 0 with
    | true => rw [hc] at hne; exact hne rfl
    | false => rw [hc] at hne; exact hne rfl
end C6
