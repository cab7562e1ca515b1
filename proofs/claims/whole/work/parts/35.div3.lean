/-! DIVISION: putBack; lower of a row not trimmed. -/
theorem dg_mod {Z j m : Nat} (h : j < m) : dg (Z % 2147483648 ^ m) j = dg Z j := by
  have hp := pow31_pos j
  have e : 2147483648 ^ m = 2147483648 ^ j * (2147483648 * 2147483648 ^ (m - j - 1)) := by
    rw [← Nat.pow_succ', ← Nat.pow_add]; congr 1; omega
  have h1 := Nat.div_add_mod Z (2147483648 ^ m)
  unfold dg
  conv => rhs; rw [← h1]
  generalize Z % 2147483648 ^ m = r
  generalize Z / 2147483648 ^ m = q
  rw [show 2147483648 ^ m * q + r = r + 2147483648 ^ j * (2147483648 * (2147483648 ^ (m - j - 1) * q)) by rw [e]; ac_rfl]
  rw [Nat.add_mul_div_left _ _ hp, Nat.add_mul_mod_self_left]
theorem c_putBack {o : xO} {d S X n k u : Nat} {kw : Int32} (hd : IsDv o d) (hs : Rn o (d + 5) S) (hr : IsRow o (d + 3)) (hn : nl S = n + 1) (hk : kw.toInt = (k : Int)) (hkn : k + n + 1 < 540) (hR : X < 2147483648 ^ (k + (n + 2))) (hu : u ≤ 540) :
    Cv y_Divider_putBack [.ref d, .int kw] (sRow o (d + 3) (lm X) u) (fun o' => ∃ u', u' ≤ 540 ∧ k + n + 2 ≤ u' ∧ u ≤ u' ∧
      o' = sRow o (d + 3) (lm (Win X k ((X / 2147483648 ^ k + S) % 2147483648 ^ (n + 2)))) u') := by
  have hnS := big_nl hs.2.1
  have hRw : X / 2147483648 ^ k < 2147483648 ^ (n + 2) := by
    rw [Nat.div_lt_iff_lt_mul (pow31_pos k), Nat.mul_comm, ← Nat.pow_add]; exact hR
  have hdj := fun j => dg_win X k j
  generalize hRwd : X / 2147483648 ^ k = Rw at hRw hdj
  have hZl : (Rw + S) % 2147483648 ^ (n + 2) < 2147483648 ^ (n + 2) := Nat.mod_lt _ (pow31_pos _)
  have hgf : ∀ f v, xf (sRow o (d + 3) f v) d 1 = .ref (d + 3) := fun f v => (sRow_f_ne (by omega) 1).trans hd.2.2.1
  have hgs : ∀ f v, xf (sRow o (d + 3) f v) d 2 = .ref (d + 5) := fun f v => (sRow_f_ne (by omega) 2).trans hd.2.2.2
  have hsr : ∀ f v, Rn (sRow o (d + 3) f v) (d + 5) S := fun f v => hs.ne (by omega)
  have loop : ∀ n' j (jw : Int32) (cw : Int64), j + n' = n + 2 → jw.toInt = (j : Int) → cw = Int64.ofInt (((Rw % 2147483648 ^ j + S % 2147483648 ^ j) / 2147483648 ^ j : Nat) : Int) → ∀ v w, v ≤ 540 → u ≤ v → (j = 0 ∨ k + j ≤ v) → w = sRow o (d + 3) (mx (Win X k ((Rw + S) % 2147483648 ^ (n + 2))) X (k + j)) v →
      RW (fun r' o' => r' = .inl none ∧ ∃ u', u' ≤ 540 ∧ k + n + 2 ≤ u' ∧ u ≤ u' ∧ o' = sRow o (d + 3) (lm (Win X k ((Rw + S) % 2147483648 ^ (n + 2)))) u') y_Divider_putBack (xbk y_Divider_putBack 5)
        [.ref d, .int kw, .long cw, xj, .int jw] [] w := by
    intro n'
    induction n' with
    | zero =>
      intro j jw cw hj hjw hcw v w hv huv hjv hw
      subst hw
      have hj' : j = n + 2 := by omega
      subst hj'
      refine RW.ps 2 rfl ?_
      refine RW.gf hd.1 (hgs _ _) ?_
      refine RW.gf (hsr _ _).1.1 (hsr _ _).2.2.2 ?_
      refine RW.icm (fun _ => ?_) (fun h1 => ?_)
      · rw [mx_end (nl_le.mpr hR) (nl_le.mpr (win_lt hZl))]
        exact RW.re rfl rfl ⟨rfl, v, hv, by omega, huv, rfl⟩
      · rw [xi_gt, hjw, iu (by omega)] at h1; omega
    | succ n' ih =>
      intro j jw cw hj hjw hcw v w hv huv hjv hw
      subst hw
      have hP := pow31_pos j
      have hdx := dg_lt X (k + j)
      have hdy := dg_lt S j
      have hT1 := Nat.mod_lt Rw hP
      have hT2 := Nat.mod_lt S hP
      obtain ⟨e1, e2⟩ := carry_nat (Z := Rw + S) (k := j) (T := Rw % 2147483648 ^ j + S % 2147483648 ^ j) (T' := Rw % 2147483648 ^ (j + 1) + S % 2147483648 ^ (j + 1)) (d := dg X (k + j) + dg S j)
        (by rw [dg_step, dg_step, hdj, Nat.add_mul]; omega)
        (by
          refine ⟨Rw / 2147483648 ^ (j + 1) + S / 2147483648 ^ (j + 1), ?_⟩
          have h1 := Nat.div_add_mod Rw (2147483648 ^ (j + 1))
          have h2 := Nat.div_add_mod S (2147483648 ^ (j + 1))
          rw [Nat.add_mul, Nat.mul_comm (Rw / _), Nat.mul_comm (S / _)]
          omega)
      have hc1 : (Rw % 2147483648 ^ j + S % 2147483648 ^ j) / 2147483648 ^ j < 2 := by
        rw [Nat.div_lt_iff_lt_mul hP]; omega
      generalize (Rw % 2147483648 ^ j + S % 2147483648 ^ j) / 2147483648 ^ j = c at hc1 e1 e2 hcw
      subst hcw
      have hkj := i_add hk hjw (by omega)
      refine RW.ps 2 rfl ?_
      refine RW.gf hd.1 (hgs _ _) ?_
      refine RW.gf (hsr _ _).1.1 (hsr _ _).2.2.2 ?_
      refine RW.icm (fun h1 => ?_) (fun _ => ?_)
      · rw [xi_gt, hjw, iu (by omega)] at h1; omega
      refine RW.ps 2 rfl ?_
      refine RW.gf hd.1 (hgf _ _) ?_
      refine RW.ps 3 rfl ?_
      refine RW.cp rfl rfl (xrc_v rfl rfl (IsRow.s hr).1) rfl rfl (c_at (d := dg X (k + j)) (IsRow.s hr) hkj (fun _ => by rw [sRow_i]; exact mx_at (Nat.le_refl _)) (fun h => by omega) hdx) ?_
      refine RW.ps 1 rfl ?_
      refine RW.gf hd.1 (hgs _ _) ?_
      refine RW.ps 1 rfl ?_
      refine RW.cp rfl rfl (xrc_v rfl rfl (hsr _ _).1.1) rfl rfl (c_dg (hsr _ _).1 hjw hs.2.1 (by rw [(hsr _ _).2.2.1]; rfl)) ?_
      refine RW.ps 2 rfl ?_
      refine RW.top (congrArg Value.long ((show Int64.ofInt (c : Int) + (Int64.ofInt (dg X (k + j) : Nat) + Int64.ofInt (dg S j : Nat)) = Int64.ofInt ((c + (dg X (k + j) + dg S j) : Nat) : Int) by rw [li_add, li_add]; congr 1))) ?_
      refine RW.ps 2 rfl ?_
      refine RW.weak (lv0 := [.ref d, .int kw, .long (Int64.ofInt ((c + (dg X (k + j) + dg S j) : Nat) : Int)), xj, .int jw]) ⟨Or.inr rfl, Or.inr rfl, Or.inr rfl, Or.inl rfl, Or.inr rfl, trivial⟩ ?_
      refine RW.sk [.ref d] rfl ?_
      refine RW.gf hd.1 (hgf _ _) ?_
      refine RW.ps 4 rfl ?_
      refine RW.cv rfl rfl (xrc_v rfl rfl (IsRow.s hr).1) rfl rfl (c_put (IsRow.s hr) hkj sRow_i sRow_f (by omega) hv) ?_
      intro o' ho'
      refine RW.ps 3 rfl ?_
      refine RW.top (congrArg Value.long (li_shr (by omega) (by omega))) ?_
      refine RW.ps 2 rfl ?_
      refine RW.go ?_
      refine ih (j + 1) (jw + 1) _ (by omega) (i_succ hjw (by omega)) ?_ (max v (k + j + 1)) o' (by omega) (by omega) (Or.inr (by omega)) ?_
      · rw [← e2]; congr 1
      · rw [ho', sRow_s, mx_step (by rw [win_hi, dg_mod (by omega)]; omega)]; rfl
  refine RW.ps 4 rfl ?_
  refine loop (n + 2) 0 0 0 (Nat.zero_add _) rfl ?_ u _ hu (Nat.le_refl _) (Or.inl rfl) ?_
  · rw [Nat.pow_zero, Nat.mod_one, Nat.mod_one]; rfl
  · rw [mx_win]
/-- lower, of a row with room above it -/
theorem c_lowerU {o : xO} {r x p v : Nat} {pw : Int32} (hr : IsRow o r) (hxB : x < BIG) (hv : nl x ≤ v) (hv2 : v ≤ 540) (hp : pw.toInt = (p : Int)) (hp2 : p < 2147483648) : Cv y_Row_lower [.ref r, .int pw] (sRow o r (lm x) v) (fun o' => o' = sNum o r (x / 2 ^ p)) := by
  have hpd : p = 31 * (p / 31) + p % 31 := by omega
  have hbl : p % 31 < 31 := by omega
  have hW2 : p / 31 < 2147483648 / 31 + 1 := by omega
  refine RW.ps 2 rfl ?_
  refine RW.idv (by decide) ?_
  rw [i_of hp, show (31 : Int32) = Int32.ofInt ((31 : Nat) : Int) by decide, i_div hp2 (by decide)]
  refine RW.ps 3 rfl ?_
  refine RW.irm (by decide) ?_
  rw [i_rem hp2 (by decide)]
  refine RW.ps 2 rfl ?_
  refine RW.gf (IsRow.s hr).1 sRow_f ?_
  refine RW.ps 3 rfl ?_
  generalize hWd : p / 31 = W at hpd hW2
  generalize hbd : p % 31 = b at hpd hbl
  have hdg := fun i => lower_dg (x := x) (i := i) hpd hbl
  have hZx : x / 2 ^ p ≤ x := Nat.div_le_self _ _
  generalize hZd : x / 2 ^ p = Z at hZx hdg
  have hZ : Z < BIG := Nat.lt_of_le_of_lt hZx hxB
  have hnZ := nl_mono hZx
  have loop : ∀ n i (iw : Int32), i + n = v → iw.toInt = (i : Int) → ∀ d w, w = sRow o r (mx Z x i) v → RW (fun r' o' => r' = .inl none ∧ o' = sNum o r Z) y_Row_lower (xbk y_Row_lower 19) [.ref r, .int (Int32.ofInt (p : Int)), .int (Int32.ofInt (W : Int)), .int (Int32.ofInt (b : Int)), .int (Int32.ofInt (v : Nat)), .int iw, d, xj] [] w := by
    intro n
    induction n with
    | zero =>
      intro i iw hk hi d w hw
      subst hw
      refine RW.ps 2 rfl ?_
      refine RW.icm (fun _ => ?_) (fun h1 => ?_)
      · refine RW.ps 1 rfl ?_
        have hi' : i = v := by omega
        subst hi'
        rw [mx_end hv (by omega)]
        refine RW.cv rfl rfl (xrc_v rfl rfl (IsRow.s hr).1) rfl rfl (c_trim hr hZ (i - nl Z) i (by omega) (by omega)) ?_
        intro o' ho'
        exact RW.re rfl rfl ⟨rfl, ho'⟩
      · rw [xi_ge, hi, iu (by omega)] at h1; omega
    | succ n ih =>
      intro i iw hk hi d w hw
      subst hw
      refine RW.ps 2 rfl ?_
      refine RW.icm (fun h1 => ?_) (fun _ => ?_)
      · rw [xi_ge, hi, iu (by omega)] at h1; omega
      have hWi : (iw + Int32.ofInt (W : Int)).toInt = ((i + W : Nat) : Int) := i_add hi (iu (by omega)) (by omega)
      have hd1 := dg_lt x (i + W + 1)
      have hd2 := dg_lt x (i + W)
      refine RW.ps 6 rfl ?_
      refine RW.cp rfl rfl (xrc_v rfl rfl (IsRow.s hr).1) rfl rfl (c_dg (x := x) (IsRow.s hr) (i_succ hWi (by omega)) hxB (by rw [sRow_i]; exact mx_at (by omega))) ?_
      refine RW.ps 2 rfl ?_
      refine RW.top (congrArg Value.long (n_shl (k := 31) (dg x (i + W + 1)) rfl (by decide))) ?_
      refine RW.ps 4 rfl ?_
      refine RW.cp rfl rfl (xrc_v rfl rfl (IsRow.s hr).1) rfl rfl (c_dg (x := x) (IsRow.s hr) hWi hxB (by rw [sRow_i]; exact mx_at (by omega))) ?_
      refine RW.ps 1 rfl ?_
      refine RW.top (congrArg Value.long (n_or (k := 31) hd2 (by omega))) ?_
      refine RW.weak (lv0 := [.ref r, .int (Int32.ofInt (p : Int)), .int (Int32.ofInt (W : Int)), .int (Int32.ofInt (b : Int)), .int (Int32.ofInt (v : Nat)), .int iw, xj, xj]) ⟨Or.inr rfl, Or.inr rfl, Or.inr rfl, Or.inr rfl, Or.inr rfl, Or.inr rfl, Or.inl rfl, Or.inl rfl, trivial⟩ ?_
      refine RW.sk [.long (Int64.ofInt ((dg x (i + W + 1) * 2 ^ 31 + dg x (i + W) : Nat) : Int))] rfl ?_
      have hE := hdg i
      have hc62 : dg x (i + W + 1) * 2 ^ 31 + dg x (i + W) < 2 ^ 62 := by omega
      rw [show dg x (i + W + 1) * 2147483648 + dg x (i + W) = dg x (i + W + 1) * 2 ^ 31 + dg x (i + W) from rfl] at hE
      generalize dg x (i + W + 1) * 2 ^ 31 + dg x (i + W) = pair at hE hc62
      refine RW.ps 6 rfl ?_
      refine RW.top (congrArg Value.long (n_shr (k := b) (iu (by omega)) (by omega) (by omega))) ?_
      refine RW.cv rfl rfl (xrc_v rfl rfl (IsRow.s hr).1) rfl rfl (c_put (IsRow.s hr) hi sRow_i sRow_f (by omega) (by omega)) ?_
      intro o' ho'
      refine RW.ps 1 rfl ?_
      refine RW.go ?_
      refine ih (i + 1) (iw + 1) (by omega) (i_succ hi (by omega)) _ _ ?_
      rw [ho', sRow_s, Nat.max_eq_left (by omega), mx_step]
      rw [hE]; omega
  refine RW.weak (lv0 := [.ref r, .int (Int32.ofInt (p : Int)), .int (Int32.ofInt (W : Int)), .int (Int32.ofInt (b : Int)), .int (Int32.ofInt (v : Nat)), .int 0, xj, xj]) ⟨Or.inr rfl, Or.inr rfl, Or.inr rfl, Or.inr rfl, Or.inr rfl, Or.inr rfl, Or.inl rfl, Or.inl rfl, trivial⟩ ?_
  refine loop v 0 0 (Nat.zero_add _) rfl _ _ ?_
  rw [mx_0]
