/-! THE REFERENCE: divideRows. -/
section M7
variable {o : xO} {Y a b x y : Nat}
theorem c_divideRows (hB : MB o Y) (ha : Mn o a 1200 x) (hb : Mn o b 1200 y) (haY : Y + 2 < a ∧ a < Y + 9) (hbY : Y + 2 < b ∧ b < Y + 9) (hy : 0 < y) (hnx : n16 x ≤ 1100) (hny : n16 y ≤ 1100) :
    Cv y_M_divideRows [.ref Y, .ref a, .ref b] o (fun o' => Fr [(Y + 9, 3)] o o' ∧ Mn o' (Y + 9) 1200 (x / y) ∧ Mn o' (Y + 10) 1200 (x % y)) := by
  have kY : ∀ w, MB w Y → xk w Y = (3, 9) := fun w h => h.1
  have pQ : ∀ w, MB w Y → xf w Y 9 = .ref (Y + 9) := fun w h => h.2.1.2.2.2.2.2.2.2.2.1
  have pR : ∀ w, MB w Y → xf w Y 10 = .ref (Y + 10) := fun w h => h.2.1.2.2.2.2.2.2.2.2.2.1
  have pD : ∀ w, MB w Y → xf w Y 11 = .ref (Y + 11) := fun w h => h.2.1.2.2.2.2.2.2.2.2.2.2.1
  have kQ : ∀ w, MB w Y → xk w (Y + 9) = (1, 1200) := fun w h => h.2.2.2.2.2.2.2.2.2.2.1
  have kR : ∀ w, MB w Y → xk w (Y + 10) = (1, 1200) := fun w h => h.2.2.2.2.2.2.2.2.2.2.2.1
  have kD : ∀ w, MB w Y → xk w (Y + 11) = (1, 1200) := fun w h => h.2.2.2.2.2.2.2.2.2.2.2.2.1
  refine RW.ps 2 rfl ?_
  refine RW.gf hB.1 (pR o hB) ?_
  refine RW.cv rfl rfl rfl rfl rfl (c_copy ha (by decide) (kR o hB) (by omega) (by omega)) ?_
  intro o1 ⟨f1, r1⟩
  have hB1 := hB.fr1 f1 (by omega)
  have hb1 := hb.fr1 f1 (by omega)
  have ha1 := ha.fr1 f1 (by omega)
  have F1 : Fr [(Y + 9, 3)] o o1 := f1.in1 (by omega) (by omega)
  refine RW.ps 2 rfl ?_
  refine RW.gf hB1.1 (pD o1 hB1) ?_
  refine RW.cv rfl rfl rfl rfl rfl (c_copy hb1 (by decide) (kD o1 hB1) (by omega) (by omega)) ?_
  intro o2 ⟨f2, d2⟩
  have hB2 := hB1.fr1 f2 (by omega)
  have hb2 := hb1.fr1 f2 (by omega)
  have ha2 := ha1.fr1 f2 (by omega)
  have r2 := r1.fr1 f2 (by omega)
  have F2 := F1.trans (f2.in1 (c := Y + 9) (m := 3) (by omega) (by omega))
  refine RW.weak (lv0 := [.ref Y, .ref a, .ref b, xj, xj, xj, xj]) ⟨Or.inr rfl, Or.inr rfl, Or.inr rfl, Or.inl rfl, Or.inl rfl, Or.inl rfl, Or.inl rfl, trivial⟩ ?_
  refine RW.sk [] rfl ?_
  refine RW.ps 1 rfl ?_
  refine RW.gf hB2.1 (pQ o2 hB2) ?_
  refine RW.ps 2 rfl ?_
  refine RW.ist (k := 0) (kQ o2 hB2) i0n (by omega) ?_
  have f3 : Fr [(Y + 9, 1)] o2 (xpi o2 (Y + 9) 0 0) := Fr.pi
  have q3 : Mn (xpi o2 (Y + 9) 0 0) (Y + 9) 1200 0 := by
    unfold Mn
    rw [n16_zero.mpr rfl]
    exact ⟨kQ o2 hB2, by decide, by decide, xpi_same, fun k hk => absurd hk (Nat.not_lt_zero k)⟩
  generalize xpi o2 (Y + 9) 0 0 = o3 at *
  have hB3 := hB2.fr1 f3 (by omega)
  have hb3 := hb2.fr1 f3 (by omega)
  have ha3 := ha2.fr1 f3 (by omega)
  have r3 : Mn o3 (Y + 10) 1200 x := r2.fr1 f3 (by omega)
  have d3 : Mn o3 (Y + 11) 1200 y := d2.fr1 f3 (by omega)
  have F3 := F2.trans (f3.in1 (c := Y + 9) (m := 3) (by omega) (by omega))
  clear f1 f2 f3 F1 F2 hB1 hB2 hb1 hb2 ha1 ha2 r1 r2 d2 hB ha hb
  refine RW.ps 2 rfl ?_
  refine RW.cp rfl rfl rfl rfl rfl (c_compareRows ha3 hb3 (by decide) (by decide)) ?_
  by_cases hxy : x < y
  · rw [cmpI_lt hxy]
    refine RW.ifc (fun k => absurd (xi_ge.mp k) (by decide)) (fun _ => ?_)
    rw [Nat.div_eq_of_lt hxy, Nat.mod_eq_of_lt hxy]
    exact RW.re rfl rfl ⟨rfl, F3, q3, r3⟩
  have hge : xcd .ge (cmpI x y) 0 := by rw [xi_ge, i0]; have := cmpI_lt0 (x := x) (y := y); rw [i0] at this; omega
  refine RW.ifc (fun _ => ?_) (fun k => absurd hge k)
  refine RW.ps 2 rfl ?_
  refine RW.ia hb3.1 i0n (by omega) ?_
  rw [hb3.2.2.2.1]
  refine RW.ps 1 rfl ?_
  refine RW.icm (fun k => ?_) (fun k => ?_)
  rotate_left
  · -- a divisor of one part
    rw [xi_ne, iu (by omega), show (1 : Int32).toInt = 1 from rfl] at k
    have hn1 : n16 y = 1 := by omega
    have hy1 : y < 65536 := by have := hb3.2.2.1; rw [hn1, Nat.pow_one] at this; exact this
    refine RW.ps 2 rfl ?_
    refine RW.gf hB3.1 (pQ o3 hB3) ?_
    refine RW.cv rfl rfl rfl rfl rfl (c_copy ha3 (by decide) (kQ o3 hB3) (by omega) (by omega)) ?_
    intro o4 ⟨f4, q4⟩
    have hB4 := hB3.fr1 f4 (by omega)
    have hb4 := hb3.fr1 f4 (by omega)
    have F4 := F3.trans (f4.in1 (c := Y + 9) (m := 3) (by omega) (by omega))
    refine RW.ps 1 rfl ?_
    refine RW.gf hB4.1 (pR o4 hB4) ?_
    refine RW.ps 1 rfl ?_
    refine RW.gf hB4.1 (pQ o4 hB4) ?_
    refine RW.ps 2 rfl ?_
    refine RW.ia (k := 1) hb4.1 rfl (by omega) ?_
    rw [hb4.2.2.2.2 0 (by omega), d16_small hy1]
    refine RW.cq rfl rfl rfl rfl rfl (c_divideSmall q4 (by decide) (iu (u := y) (by omega)) hy hy1) ?_
    intro v o5 ⟨hv, f5, q5⟩
    subst hv
    have hB5 := hB4.fr1 f5 (by omega)
    have F5 := F4.trans (f5.in1 (c := Y + 9) (m := 3) (by omega) (by omega))
    have hmd := Nat.mod_lt x hy
    refine RW.cv rfl rfl rfl rfl rfl (c_small (kR o5 hB5) (by decide) (iu (u := x % y) (by omega)) (by omega)) ?_
    intro o6 ⟨f6, r6⟩
    exact RW.re rfl rfl ⟨rfl, F5.trans (f6.in1 (by omega) (by omega)), q5.fr1 f6 (by omega), r6⟩
  -- a longer one
  rw [xi_ne, iu (by omega), show (1 : Int32).toInt = 1 from rfl] at k
  have hny0 : n16 y ≠ 0 := fun z => by have := n16_zero.mp z; omega
  obtain ⟨n, hn⟩ : ∃ n, n16 y = n + 1 := ⟨n16 y - 1, by omega⟩
  have hyl : y < 65536 ^ (n + 1) := n16_le.mp (by omega)
  have htop := d16_top hn
  have htl := d16_lt y n
  have htq : d16 y n = y / 65536 ^ n := by
    unfold d16
    rw [Nat.mod_eq_of_lt]
    rw [Nat.div_lt_iff_lt_mul (pow16_pos n), Nat.mul_comm, ← Nat.pow_succ]; exact hyl
  have hyt1 : d16 y n * 65536 ^ n ≤ y := by rw [htq]; exact Nat.div_mul_le_self _ _
  have hyt2 : y < (d16 y n + 1) * 65536 ^ n := by
    rw [htq, Nat.add_mul, Nat.one_mul]
    exact Nat.lt_div_mul_add (pow16_pos n)
  generalize ht : d16 y n = t at *
  have h92 : ∀ e, e ≤ 15 → (t + 1) * 2 ^ e ≤ 65536 → 32768 ≤ t * 2 ^ e → RW (fun r o' => r = .inl none ∧ (Fr [(Y + 9, 3)] o o' ∧ Mn o' (Y + 9) 1200 (x / y) ∧ Mn o' (Y + 10) 1200 (x % y))) y_M_divideRows (xbk y_M_divideRows 92) [.ref Y, .ref a, .ref b, .int (Int32.ofInt ((2 ^ e : Nat) : Int)), xj, xj, xj] [] o3 := by
    intro e he he1 he2
    have hp := Nat.two_pow_pos e
    have hp2 : 2 ^ e ≤ 2 ^ 15 := Nat.pow_le_pow_right (by decide) he
    generalize hby : 2 ^ e = by' at *
    have hDl : y * by' < 65536 ^ (n + 1) := by
      have h1 : y * by' < (t + 1) * 65536 ^ n * by' := Nat.mul_lt_mul_of_pos_right hyt2 hp
      have h2 : (t + 1) * by' * 65536 ^ n ≤ 65536 * 65536 ^ n := Nat.mul_le_mul_right _ he1
      rw [show (t + 1) * 65536 ^ n * by' = (t + 1) * by' * 65536 ^ n by ac_rfl] at h1
      rw [Nat.pow_succ, Nat.mul_comm _ 65536]
      omega
    have hDt : 32768 ≤ d16 (y * by') n := by
      have h1 : d16 (y * by') n = y * by' / 65536 ^ n := by
        unfold d16
        rw [Nat.mod_eq_of_lt]
        rw [Nat.div_lt_iff_lt_mul (pow16_pos n), Nat.mul_comm 65536, ← Nat.pow_succ]; exact hDl
      rw [h1, Nat.le_div_iff_mul_le (pow16_pos n)]
      have h2 := Nat.mul_le_mul_right by' hyt1
      have h3 := Nat.mul_le_mul_right (65536 ^ n) he2
      rw [show t * 65536 ^ n * by' = t * by' * 65536 ^ n by ac_rfl] at h2
      omega
    have hDn := n16_is hDl (by omega)
    have hD0 : 0 < y * by' := Nat.mul_pos hy hp
    have hXq : x * by' / (y * by') = x / y := Nat.mul_div_mul_right _ _ hp
    have hXr : x * by' % (y * by') / by' = x % y := by rw [Nat.mul_mod_mul_right, Nat.mul_div_cancel _ hp]
    have hXD : y * by' ≤ x * by' := Nat.mul_le_mul_right _ (by omega)
    have hnX : n16 (x * by') ≤ 1101 := by
      rw [n16_le]
      have h1 : x < 65536 ^ 1100 := n16_le.mp hnx
      have h2 := Nat.mul_lt_mul'' h1 (show by' < 65536 by omega)
      rw [← Nat.pow_succ] at h2
      exact h2
    have hnXD := n16_mono hXD
    refine RW.ps 1 rfl ?_
    refine RW.gf hB3.1 (pD o3 hB3) ?_
    refine RW.ps 2 rfl ?_
    refine RW.cv rfl rfl rfl rfl rfl (c_mscale d3 (by decide) (iu (u := by') (by omega)) (gw := 0) (g := 0) rfl hp (by omega) (by decide) (by omega)) ?_
    intro o4 ⟨f4, d4⟩
    rw [Nat.add_zero (y * by')] at d4
    have hB4 := hB3.fr1 f4 (by omega)
    have r4 := r3.fr1 f4 (by omega)
    have F4 := F3.trans (f4.in1 (c := Y + 9) (m := 3) (by omega) (by omega))
    refine RW.weak (lv0 := [.ref Y, .ref a, .ref b, .int (Int32.ofInt (by' : Nat)), xj, xj, xj]) ⟨Or.inr rfl, Or.inr rfl, Or.inr rfl, Or.inr rfl, Or.inl rfl, Or.inl rfl, Or.inl rfl, trivial⟩ ?_
    refine RW.sk [] rfl ?_
    refine RW.ps 1 rfl ?_
    refine RW.gf hB4.1 (pR o4 hB4) ?_
    refine RW.ps 2 rfl ?_
    refine RW.cv rfl rfl rfl rfl rfl (c_mscale r4 (by decide) (iu (u := by') (by omega)) (gw := 0) (g := 0) rfl hp (by omega) (by decide) (by omega)) ?_
    intro o5 ⟨f5, r5⟩
    rw [Nat.add_zero (x * by')] at r5
    have hB5 := hB4.fr1 f5 (by omega)
    have d5 := d4.fr1 f5 (by omega)
    have F5 := F4.trans (f5.in1 (c := Y + 9) (m := 3) (by omega) (by omega))
    clear f4 f5 F4 hB4 d4 r4
    generalize hX : x * by' = X at *
    generalize hDD : y * by' = D at *
    generalize hN : n16 X = N0 at *
    have r5' : Mu o5 (Y + 10) 1200 N0 X := by rw [← hN]; exact r5
    refine RW.weak (lv0 := [.ref Y, .ref a, .ref b, .int (Int32.ofInt (by' : Nat)), xj, xj, xj]) ⟨Or.inr rfl, Or.inr rfl, Or.inr rfl, Or.inr rfl, Or.inl rfl, Or.inl rfl, Or.inl rfl, trivial⟩ ?_
    refine RW.sk [] rfl ?_
    refine RW.ps 1 rfl ?_
    refine RW.gf hB5.1 (pR o5 hB5) ?_
    refine RW.ps 1 rfl ?_
    refine RW.ia r5'.1 i0n (by omega) ?_
    rw [r5'.2.2.2.1]
    refine RW.ps 2 rfl ?_
    refine RW.gf hB5.1 (pR o5 hB5) ?_
    refine RW.ps 3 rfl ?_
    refine RW.top (congrArg Value.int (is1 N0)) ?_
    refine RW.ps 1 rfl ?_
    refine RW.ist (k := N0 + 1) r5'.1 (iu (u := N0 + 1) (by omega)) (by omega) ?_
    have f6 : Fr [(Y + 10, 1)] o5 (xpi o5 (Y + 10) (N0 + 1) 0) := Fr.pi
    have hB6 := hB5.fr1 f6 (by omega)
    refine RW.ps 1 rfl ?_
    refine RW.gf hB6.1 (pR _ hB6) ?_
    refine RW.ps 4 rfl ?_
    refine RW.top (congrArg Value.int (is1 N0)) ?_
    refine RW.ist (k := 0) (kR _ hB6) i0n (by omega) ?_
    have f7 : Fr [(Y + 10, 1)] o5 (xpi (xpi o5 (Y + 10) (N0 + 1) 0) (Y + 10) 0 (Int32.ofInt ((N0 + 1 : Nat) : Int))) := Fr.trans Fr.pi Fr.pi
    have r7 : Mu (xpi (xpi o5 (Y + 10) (N0 + 1) 0) (Y + 10) 0 (Int32.ofInt ((N0 + 1 : Nat) : Int))) (Y + 10) 1200 (N0 + 1) X := by
      have h1 := r5'.more (v := 0) (by omega) (by decide)
      rw [Nat.zero_mul, Nat.add_zero] at h1
      exact h1
    generalize xpi (xpi o5 (Y + 10) (N0 + 1) 0) (Y + 10) 0 (Int32.ofInt ((N0 + 1 : Nat) : Int)) = o7 at *
    have hB7 := hB5.fr1 f7 (by omega)
    have d7 := d5.fr1 f7 (by omega)
    have F7 := F5.trans (f7.in1 (c := Y + 9) (m := 3) (by omega) (by omega))
    clear f6 f7 F5 hB5 hB6 d5 r5 r5'
    refine RW.weak (lv0 := [.ref Y, .ref a, .ref b, .int (Int32.ofInt (by' : Nat)), .int (Int32.ofInt (N0 : Nat)), xj, xj]) ⟨Or.inr rfl, Or.inr rfl, Or.inr rfl, Or.inr rfl, Or.inr rfl, Or.inl rfl, Or.inl rfl, trivial⟩ ?_
    refine RW.sk [] rfl ?_
    refine RW.ps 2 rfl ?_
    refine RW.gf hB7.1 (pD o7 hB7) ?_
    refine RW.ps 1 rfl ?_
    refine RW.ia d7.1 i0n (by omega) ?_
    rw [d7.2.2.2.1, hDn]
    obtain ⟨M, hM⟩ : ∃ M, N0 = M + (n + 1) := ⟨N0 - (n + 1), by omega⟩
    refine RW.ps 1 rfl ?_
    refine RW.top (congrArg Value.int ((show Int32.ofInt (N0 : Nat) - Int32.ofInt ((n + 1 : Nat) : Int) = Int32.ofInt (M : Nat) by rw [ii_sub]; congr 1; omega))) ?_
    refine RW.ps 3 rfl ?_
    have hXl : X < D * 65536 ^ (M + 1) := by
      have h1 : X < 65536 ^ N0 := n16_le.mp (by omega)
      have h2 : 65536 ^ n ≤ D := by
        have h3 : 1 ≤ D / 65536 ^ n := by
          have : d16 D n = D / 65536 ^ n := by
            unfold d16
            rw [Nat.mod_eq_of_lt]
            rw [Nat.div_lt_iff_lt_mul (pow16_pos n), Nat.mul_comm 65536, ← Nat.pow_succ]; exact hDl
          omega
        rw [Nat.le_div_iff_mul_le (pow16_pos n), Nat.one_mul] at h3
        exact h3
      have h4 := Nat.mul_le_mul_right (65536 ^ (M + 1)) h2
      rw [← Nat.pow_add, show n + (M + 1) = N0 by omega] at h4
      omega
    have loop : ∀ m (kw : Int32) w, m ≤ M + 1 → kw.toInt = (m : Int) - 1 → Fr [(Y + 9, 3)] o w → MB w Y → Mn w (Y + 11) 1200 D → Mu w (Y + 10) 1200 (N0 + 1) (X % (D * 65536 ^ m)) → (∀ j, m ≤ j → j < M + 1 → xi w (Y + 9) (j + 1) = Int32.ofInt (d16 (X / D) j : Nat)) →
        RW (fun r o' => r = .inl none ∧ (Fr [(Y + 9, 3)] o o' ∧ Mn o' (Y + 9) 1200 (x / y) ∧ Mn o' (Y + 10) 1200 (x % y))) y_M_divideRows (xbk y_M_divideRows 153) [.ref Y, .ref a, .ref b, .int (Int32.ofInt (by' : Nat)), xj, .int (Int32.ofInt (M : Nat)), .int kw] [] w := by
      intro m
      induction m with
      | zero =>
        intro kw w hm hk hF hBw hdw hrw hq
        refine RW.ps 1 rfl ?_
        refine RW.ifc (fun _ => ?_) (fun k2 => ?_)
        rotate_left
        · rw [xi_lt, hk, i0] at k2; omega
        rw [Nat.pow_zero, Nat.mul_one] at hrw
        refine RW.ps 1 rfl ?_
        refine RW.gf hBw.1 (pQ w hBw) ?_
        refine RW.ps 4 rfl ?_
        refine RW.top (congrArg Value.int (is1 M)) ?_
        refine RW.ist (k := 0) (kQ w hBw) i0n (by omega) ?_
        have f8 : Fr [(Y + 9, 1)] w (xpi w (Y + 9) 0 (Int32.ofInt ((M + 1 : Nat) : Int))) := Fr.pi
        have q8 : Mu (xpi w (Y + 9) 0 (Int32.ofInt ((M + 1 : Nat) : Int))) (Y + 9) 1200 (M + 1) (X / D) := by
          refine ⟨kQ w hBw, by omega, ?_, xpi_same, fun j hj => (xpi_ne (fun _ => by omega)).trans (hq j (Nat.zero_le _) hj)⟩
          rw [Nat.div_lt_iff_lt_mul hD0, Nat.mul_comm]; exact hXl
        generalize xpi w (Y + 9) 0 (Int32.ofInt ((M + 1 : Nat) : Int)) = o8 at *
        have hB8 := hBw.fr1 f8 (by omega)
        have r8 := hrw.fr1 f8 (by omega)
        have F8 := hF.trans (f8.in1 (c := Y + 9) (m := 3) (by omega) (by omega))
        refine RW.ps 1 rfl ?_
        refine RW.gf hB8.1 (pQ o8 hB8) ?_
        refine RW.cv rfl rfl rfl rfl rfl (c_cutn q8 (by decide)) ?_
        intro o9 ⟨f9, q9⟩
        have hB9 := hB8.fr1 f9 (by omega)
        have r9 := r8.fr1 f9 (by omega)
        have F9 := F8.trans (f9.in1 (c := Y + 9) (m := 3) (by omega) (by omega))
        refine RW.ps 1 rfl ?_
        refine RW.gf hB9.1 (pR o9 hB9) ?_
        refine RW.cv rfl rfl rfl rfl rfl (c_cutn r9 (by decide)) ?_
        intro o10 ⟨f10, r10⟩
        have hB10 := hB9.fr1 f10 (by omega)
        have q10 := q9.fr1 f10 (by omega)
        have F10 := F9.trans (f10.in1 (c := Y + 9) (m := 3) (by omega) (by omega))
        refine RW.ps 1 rfl ?_
        refine RW.gf hB10.1 (pR o10 hB10) ?_
        refine RW.ps 1 rfl ?_
        refine RW.cq rfl rfl rfl rfl rfl (c_divideSmall r10 (by decide) (iu (u := by') (by omega)) hp (by omega)) ?_
        intro v o11 ⟨hv, f11, r11⟩
        subst hv
        refine RW.ps 1 rfl ?_
        rw [hXq] at q10
        rw [hXr] at r11
        exact RW.re rfl rfl ⟨rfl, F10.trans (f11.in1 (by omega) (by omega)), q10.fr1 f11 (by omega), r11⟩
      | succ m ih =>
        intro kw w hm hk hF hBw hdw hrw hq
        have hkm : kw.toInt = (m : Int) := by omega
        have hRD : X % (D * 65536 ^ (m + 1)) < D * 65536 ^ (m + 1) := Nat.mod_lt _ (Nat.mul_pos hD0 (pow16_pos _))
        have hqd : X % (D * 65536 ^ (m + 1)) / (D * 65536 ^ m) = d16 (X / D) m := by
          unfold d16
          rw [Nat.pow_succ, ← Nat.mul_assoc, Nat.mod_mul_right_div_self, Nat.div_div_eq_div_mul]
        have hrd : X % (D * 65536 ^ (m + 1)) % (D * 65536 ^ m) = X % (D * 65536 ^ m) := by
          rw [Nat.pow_succ, ← Nat.mul_assoc, Nat.mod_mul_right_mod]
        refine RW.ps 1 rfl ?_
        refine RW.ifc (fun k2 => ?_) (fun _ => ?_)
        · rw [xi_lt, hkm, i0] at k2; omega
        refine RW.ps 1 rfl ?_
        refine RW.gf hBw.1 (pQ w hBw) ?_
        refine RW.ps 5 rfl ?_
        refine RW.cq rfl rfl (xrc_v rfl rfl hBw.1) rfl rfl (c_mdigit hBw hrw hdw hDn hDt hkm (by omega) hRD) ?_
        intro v o8 ⟨hv, f8, r8⟩
        subst hv
        rw [hqd]
        rw [hrd] at r8
        have hB8 := hBw.fr1 f8 (by omega)
        have d8 := hdw.fr1 f8 (by omega)
        have F8 := hF.trans (f8.in1 (c := Y + 9) (m := 3) (by omega) (by omega))
        refine RW.ist (k := m + 1) (kQ o8 hB8) (i_succ hkm (by omega)) (by omega) ?_
        have f9 : Fr [(Y + 9, 1)] o8 (xpi o8 (Y + 9) (m + 1) (Int32.ofInt (d16 (X / D) m : Nat))) := Fr.pi
        refine RW.ps 1 rfl ?_
        refine RW.go ?_
        refine ih (kw + (-1)) _ (by omega) ?_ (F8.trans (f9.in1 (by omega) (by omega))) (hB8.fr1 f9 (by omega)) (d8.fr1 f9 (by omega)) (r8.fr1 f9 (by omega)) (fun j hj1 hj2 => ?_)
        · rw [← Int32.sub_eq_add_neg]; exact i_subnat hkm (by omega)
        · by_cases hjm : j = m
          · subst hjm; exact xpi_same
          · rw [xpi_ne (fun _ => by omega), f8.i (Out.one (by omega))]; exact hq j (by omega) hj2
    refine RW.weak (lv0 := [.ref Y, .ref a, .ref b, .int (Int32.ofInt (by' : Nat)), xj, .int (Int32.ofInt (M : Nat)), .int (Int32.ofInt (M : Nat))]) ⟨Or.inr rfl, Or.inr rfl, Or.inr rfl, Or.inr rfl, Or.inl rfl, Or.inr rfl, Or.inr rfl, trivial⟩ ?_
    refine RW.sk [] rfl ?_
    refine loop (M + 1) _ o7 (Nat.le_refl _) (by rw [iu (by omega)]; omega) F7 hB7 d7 ?_ (fun j h1 h2 => absurd h2 (by omega))
    rw [Nat.mod_eq_of_lt hXl]; exact r7
  have h67 : ∀ m e, e + m = 15 → (t + 1) * 2 ^ e ≤ 65536 → RW (fun r o' => r = .inl none ∧ (Fr [(Y + 9, 3)] o o' ∧ Mn o' (Y + 9) 1200 (x / y) ∧ Mn o' (Y + 10) 1200 (x % y))) y_M_divideRows (xbk y_M_divideRows 67) [.ref Y, .ref a, .ref b, .int (Int32.ofInt ((2 ^ e : Nat) : Int)), xj, xj, xj] [] o3 := by
    intro m
    induction m with
    | zero =>
      intro e he he1
      have he15 : e = 15 := by omega
      subst he15
      refine RW.ps 1 rfl ?_
      refine RW.gf hB3.1 (pD o3 hB3) ?_
      refine RW.ps 1 rfl ?_
      refine RW.gf hB3.1 (pD o3 hB3) ?_
      refine RW.ps 1 rfl ?_
      refine RW.ia d3.1 i0n (by omega) ?_
      rw [d3.2.2.2.1]
      refine RW.ia d3.1 (k := n + 1) (by rw [iu (by omega), hn]) (by omega) ?_
      rw [d3.2.2.2.2 n (by omega), ht]
      refine RW.ps 2 rfl ?_
      refine RW.top (congrArg Value.int ((show Int32.ofInt (t : Nat) * Int32.ofInt ((2 ^ 15 : Nat) : Int) = Int32.ofInt ((t * 2 ^ 15 : Nat) : Int) by rw [ii_mul, Int.natCast_mul]))) ?_
      refine RW.ps 1 rfl ?_
      refine RW.icm (fun _ => ?_) (fun k2 => ?_)
      · exact h92 15 (Nat.le_refl _) he1 (by omega)
      · rw [xi_ge, iu (by omega), show (32768 : Int32).toInt = 32768 from rfl] at k2; omega
    | succ m ih =>
      intro e he he1
      have hp := Nat.two_pow_pos e
      have hte : t * 2 ^ e ≤ 65536 := Nat.le_trans (Nat.mul_le_mul_right _ (Nat.le_succ t)) he1
      have hp2 : 2 ^ e ≤ 65536 := Nat.le_trans (Nat.le_mul_of_pos_left _ (Nat.succ_pos t)) he1
      refine RW.ps 1 rfl ?_
      refine RW.gf hB3.1 (pD o3 hB3) ?_
      refine RW.ps 1 rfl ?_
      refine RW.gf hB3.1 (pD o3 hB3) ?_
      refine RW.ps 1 rfl ?_
      refine RW.ia d3.1 i0n (by omega) ?_
      rw [d3.2.2.2.1]
      refine RW.ia d3.1 (k := n + 1) (by rw [iu (by omega), hn]) (by omega) ?_
      rw [d3.2.2.2.2 n (by omega), ht]
      refine RW.ps 2 rfl ?_
      refine RW.top (congrArg Value.int ((show Int32.ofInt (t : Nat) * Int32.ofInt ((2 ^ e : Nat) : Int) = Int32.ofInt ((t * 2 ^ e : Nat) : Int) by rw [ii_mul, Int.natCast_mul]))) ?_
      refine RW.ps 1 rfl ?_
      refine RW.icm (fun k2 => ?_) (fun k2 => ?_)
      · rw [xi_ge, iu (by omega), show (32768 : Int32).toInt = 32768 from rfl] at k2
        exact h92 e (by omega) he1 (by omega)
      · rw [xi_ge, iu (by omega), show (32768 : Int32).toInt = 32768 from rfl] at k2
        refine RW.ps 4 rfl ?_
        refine RW.go ?_
        refine RW.weak (lv0 := [.ref Y, .ref a, .ref b, .int (Int32.ofInt ((2 ^ (e + 1) : Nat) : Int)), xj, xj, xj]) ⟨Or.inr rfl, Or.inr rfl, Or.inr rfl, Or.inr (congrArg Value.int (by rw [show (2 : Int32) = Int32.ofInt ((2 : Nat) : Int) by decide, ii_mul, ← Int.natCast_mul, Nat.pow_succ, Nat.mul_comm 2])), Or.inl rfl, Or.inl rfl, Or.inl rfl, trivial⟩ ?_
        refine RW.sk [] rfl ?_
        refine ih (e + 1) (by omega) ?_
        have h1 : t * 2 ^ e < 2 ^ (15 - e) * 2 ^ e := by rw [← Nat.pow_add, show 15 - e + e = 15 by omega]; omega
        have h2 : t < 2 ^ (15 - e) := Nat.lt_of_mul_lt_mul_right h1
        have h3 : (t + 1) * 2 ^ e ≤ 2 ^ (15 - e) * 2 ^ e := Nat.mul_le_mul_right _ h2
        rw [← Nat.pow_add, show 15 - e + e = 15 by omega] at h3
        rw [Nat.pow_succ, ← Nat.mul_assoc]
        omega
  refine RW.ps 2 rfl ?_
  refine RW.weak (lv0 := [.ref Y, .ref a, .ref b, .int 1, xj, xj, xj]) ⟨Or.inr rfl, Or.inr rfl, Or.inr rfl, Or.inr rfl, Or.inl rfl, Or.inl rfl, Or.inl rfl, trivial⟩ ?_
  refine RW.sk [] rfl ?_
  have h0 := h67 15 0 rfl (by rw [Nat.pow_zero]; omega)
  rw [Nat.pow_zero] at h0
  exact h0
end M7
