/-! WHOLES: cores, order, longs; ROWS: hasOne. -/
/-- the core of z: z, or -1 - z below 0 -/
def core (z : Int) : Nat := if neg z then z.natAbs - 1 else z.natAbs
/-- what has that core and that sign -/
def uncore (n : Nat) (b : Bool) : Int := if b then -((n : Int) + 1) else n
theorem uncore_core (z : Int) : uncore (core z) (neg z) = z := by
  unfold uncore core
  rcases sgn_cases z with ⟨h1, h2⟩ | ⟨h1, h2⟩
  · rw [h1, if_pos rfl, if_pos rfl]; omega
  · rw [h1, if_neg (by decide), if_neg (by decide)]; omega
theorem core_le (z : Int) : core z ≤ z.natAbs := by unfold core; split <;> omega
theorem c_coreInto {o : xO} {w c v : Nat} {z : Int} (hw : Wn o w z) (hc : Rn o c v) (hd : c + 2 ≤ w ∨ w + 3 ≤ c) (hn : nl z.natAbs ≤ 538) : Cv y_Whole_coreInto [.ref w, .ref c] o (fun o' => o' = sNum o c (core z)) := by
  have hf : Fr [(c, 2)] o (sNum o c z.natAbs) := Fr.num
  have hw1 := hw.fr hf ⟨by dsimp only; omega, trivial⟩ ⟨by dsimp only; omega, trivial⟩ ⟨by dsimp only; omega, trivial⟩
  have hrow := Rn.num hc hw.2.2.1.2.1
  refine RW.ps 2 rfl ?_
  refine RW.gf hw.1 hw.2.1 ?_
  refine RW.cv rfl rfl (xrc_v rfl rfl hc.1.1) rfl rfl (c_become hc hw.2.2.1) ?_
  intro o1 ho1
  subst ho1
  refine RW.ps 1 rfl ?_
  refine RW.gf hw1.1 hw1.2.2.2 ?_
  rcases sgn_cases z with ⟨h1, h2⟩ | ⟨h1, h2⟩
  · rw [h1]
    refine RW.ifc (fun h3 => absurd (xi_eq.mp h3) (by decide)) (fun _ => ?_)
    refine RW.ps 3 rfl ?_
    have hcz : core z = z.natAbs - 1 := by unfold core; rw [h1]; rfl
    have hcB : core z < BIG := Nat.lt_of_le_of_lt (core_le z) hw.2.2.1.2.1
    refine RW.cv rfl rfl (xrc_v rfl rfl hrow.1.1) rfl rfl (c_scale (f := 1) (az := -1) (Z := core z) hrow rfl rfl (by rw [hcz]; omega) hcB hn) ?_
    intro o2 ho2
    rw [sNum, sNum, sRow_s] at ho2
    exact RW.re rfl rfl ⟨rfl, ho2⟩
  · rw [h1]
    refine RW.ifc (fun _ => ?_) (fun h3 => absurd (xi_eq.mpr rfl) h3)
    refine RW.re rfl rfl ⟨rfl, ?_⟩
    unfold core; rw [h1]; rfl
theorem c_becomeCore {o : xO} {w c n : Nat} {z : Int} {b : Bool} (hw : Wn o w z) (hc : Rn o c n) (hn : nl n ≤ 538) (hB : n + 1 < BIG) : Cv y_Whole_becomeCore [.ref w, .ref c, .int (sg b)] o (fun o' => Fr [(w, 3)] o o' ∧ Wn o' w (uncore n b)) := by
  have hrow := Rn.num hw.2.2.1 hc.2.1
  have hf0 : xf (sNum o (w + 1) n) w 0 = .ref (w + 1) := (sRow_f_ne (by omega) 0).trans hw.2.1
  have hpf : Fr [(w, 1)] (sNum o (w + 1) n) (xpf (sNum o (w + 1) n) w 1 (.int (sg b))) := Fr.pf
  have hrow2 := hrow.fr hpf ⟨by dsimp only; omega, trivial⟩ ⟨by dsimp only; omega, trivial⟩
  refine RW.ps 1 rfl ?_
  refine RW.gf hw.1 hw.2.1 ?_
  refine RW.ps 1 rfl ?_
  refine RW.cv rfl rfl (xrc_v rfl rfl hw.2.2.1.1.1) rfl rfl (c_become hw.2.2.1 hc) ?_
  intro o1 ho1
  subst ho1
  refine RW.ps 2 rfl ?_
  refine RW.pf hw.1 (narrow_sg b) (fits_sg b) ?_
  refine RW.ps 1 rfl ?_
  refine RW.gf hw.1 xpf_same ?_
  have hf02 : xf (xpf (sNum o (w + 1) n) w 1 (.int (sg b))) w 0 = .ref (w + 1) := (xpf_ne (fun _ => by decide)).trans hf0
  cases b with
  | false =>
    refine RW.ifc (fun _ => ?_) (fun h3 => absurd (xi_eq.mpr rfl) h3)
    refine RW.re rfl rfl ⟨rfl, Fr.whole, ?_⟩
    have h := hw.put (z' := uncore n false) hc.2.1 (by unfold uncore; simp)
    rw [show neg (uncore n false) = false by unfold uncore; exact neg_f (by first | omega | simp)] at h
    exact h
  | true =>
    refine RW.ifc (fun h3 => absurd (xi_eq.mp h3) (by decide)) (fun _ => ?_)
    refine RW.ps 1 rfl ?_
    refine RW.gf hw.1 hf02 ?_
    refine RW.ps 2 rfl ?_
    refine RW.cv rfl rfl (xrc_v rfl rfl hrow2.1.1) rfl rfl (c_scale (f := 1) (az := 1) (Z := n + 1) hrow2 rfl rfl (by omega) hB hn) ?_
    intro o2 ho2
    subst ho2
    refine RW.re rfl rfl ⟨rfl, Fr.trans Fr.whole Fr.amount, ?_⟩
    refine ⟨hw.1, (sRow_f_ne (by omega) 0).trans hf02, ?_, ?_⟩
    · rw [show (uncore n true).natAbs = n + 1 by unfold uncore; simp; omega]
      exact Rn.num hrow2 hB
    · rw [show neg (uncore n true) = true by unfold uncore; exact neg_t (by first | omega | simp)]
      exact (sRow_f_ne (by omega) 1).trans xpf_same
def cmpZ (x y : Int) : Int32 := if x < y then -1 else if x = y then 0 else 1
theorem cmpZ_pos {x y : Int} (hx : 0 ≤ x) (hy : 0 ≤ y) : cmpZ x y = cmpI x.natAbs y.natAbs := by
  rcases Int.lt_trichotomy x y with h | h | h
  · rw [cmpI_lt (by omega)]; exact if_pos h
  · subst h; rw [cmpI_eq]; unfold cmpZ; rw [if_neg (by omega), if_pos rfl]
  · rw [cmpI_gt (by omega)]; unfold cmpZ; rw [if_neg (by omega), if_neg (by omega)]
theorem cmpZ_neg {x y : Int} (hx : x < 0) (hy : y < 0) : cmpZ x y = -cmpI x.natAbs y.natAbs := by
  rcases Int.lt_trichotomy x y with h | h | h
  · rw [cmpI_gt (by omega)]; exact if_pos h
  · subst h; rw [cmpI_eq]; unfold cmpZ; rw [if_neg (by omega), if_pos rfl]; rfl
  · rw [cmpI_lt (by omega)]; unfold cmpZ; rw [if_neg (by omega), if_neg (by omega)]; rfl
theorem c_wAgainst {o : xO} {a b : Nat} {x y : Int} (ha : Wn o a x) (hb : Wn o b y) : Cp y_Whole_against [.ref a, .ref b] o (.int (cmpZ x y)) := by
  refine RW.ps 1 rfl ?_
  refine RW.gf ha.1 ha.2.2.2 ?_
  refine RW.ps 1 rfl ?_
  refine RW.gf hb.1 hb.2.2.2 ?_
  refine RW.icm (fun h1 => ?_) (fun h1 => ?_)
  · rw [xi_eq, sg_eq] at h1
    refine RW.ps 1 rfl ?_
    refine RW.gf ha.1 ha.2.1 ?_
    refine RW.ps 1 rfl ?_
    refine RW.gf hb.1 hb.2.1 ?_
    refine RW.cp rfl rfl (xrc_v rfl rfl ha.2.2.1.1.1) rfl rfl (c_against ha.2.2.1 hb.2.2.1) ?_
    refine RW.ps 2 rfl ?_
    refine RW.gf ha.1 ha.2.2.2 ?_
    rcases sgn_cases x with ⟨h2, h3⟩ | ⟨h2, h3⟩ <;> rcases sgn_cases y with ⟨h4, h5⟩ | ⟨h4, h5⟩ <;> rw [h2, h4] at h1
    · rw [h2]
      refine RW.ifc (fun h6 => absurd (xi_eq.mp h6) (by decide)) (fun _ => ?_)
      refine RW.ps 2 rfl ?_
      refine RW.go ?_
      exact RW.re rfl rfl ⟨by rw [cmpZ_neg h3 h5], rfl⟩
    · exact absurd h1 (by decide)
    · exact absurd h1 (by decide)
    · rw [h2]
      refine RW.ifc (fun _ => ?_) (fun h6 => absurd (xi_eq.mpr rfl) h6)
      refine RW.ps 1 rfl ?_
      exact RW.re rfl rfl ⟨by rw [cmpZ_pos h3 h5], rfl⟩
  · have h1 : neg x ≠ neg y := fun k => h1 (by rw [k]; rfl)
    refine RW.ps 1 rfl ?_
    refine RW.gf ha.1 ha.2.2.2 ?_
    rcases sgn_cases x with ⟨h2, h3⟩ | ⟨h2, h3⟩ <;> rcases sgn_cases y with ⟨h4, h5⟩ | ⟨h4, h5⟩ <;> rw [h2, h4] at h1
    · exact absurd rfl h1
    · rw [h2]
      refine RW.ifc (fun h6 => absurd (xi_eq.mp h6) (by decide)) (fun _ => ?_)
      refine RW.ps 1 rfl ?_
      refine RW.go ?_
      exact RW.re rfl rfl ⟨by unfold cmpZ; rw [if_pos (by omega)], rfl⟩
    · rw [h2]
      refine RW.ifc (fun _ => ?_) (fun h6 => absurd (xi_eq.mpr rfl) h6)
      refine RW.ps 1 rfl ?_
      exact RW.re rfl rfl ⟨by unfold cmpZ; rw [if_neg (by omega), if_neg (by omega)], rfl⟩
    · exact absurd rfl h1
theorem l_lt0 {v : Int64} : (lg_cmp v 0).toInt < (0 : Int32).toInt ↔ v.toInt < 0 := by
  have e : v = Int64.ofInt v.toInt := by rw [Int64.ofInt_toInt]
  have h1 := v.le_toInt
  have h2 := v.toInt_lt
  rw [e, l0, cmp_toInt (by omega) (by omega) (by omega) (by omega), i0, ← e]
  by_cases h : 0 < v.toInt
  · rw [if_pos h]; omega
  · rw [if_neg h]
    by_cases h' : v.toInt = 0
    · rw [if_pos h']; omega
    · rw [if_neg h']; omega
theorem c_wBecomeLong {o : xO} {w : Nat} {z : Int} {v : Int64} (hw : Wn o w z) : Cv y_Whole_becomeLong [.ref w, .long v] o (fun o' => Fr [(w, 3)] o o' ∧ Wn o' w v.toInt) := by
  have h1 := v.le_toInt
  have h2 := v.toInt_lt
  have hn : v.toInt.natAbs < 2 ^ 64 := by omega
  have hB : v.toInt.natAbs < BIG := Nat.lt_of_lt_of_le hn (by unfold BIG; rw [b31]; exact Nat.pow_le_pow_right (by decide) (by decide))
  have hge : xcd .ge (lg_cmp v 0) 0 ↔ 0 ≤ v.toInt := by
    rw [xi_ge]
    have := l_lt0 (v := v)
    omega
  have hfin : ∀ c : Bool, c = neg v.toInt → RW (fun r o' => r = .inl none ∧ (Fr [(w, 3)] o o' ∧ Wn o' w v.toInt)) y_Whole_becomeLong (xbk y_Whole_becomeLong 31) [] [.int (sg c), .ref w] (sNum o (w + 1) v.toInt.natAbs) := by
    intro c hc
    refine RW.pf hw.1 (narrow_sg c) (fits_sg c) ?_
    refine RW.re rfl rfl ⟨rfl, ?_⟩
    rw [hc]
    exact ⟨Fr.whole, hw.put hB rfl⟩
  have h16 : RW (fun r o' => r = .inl none ∧ (Fr [(w, 3)] o o' ∧ Wn o' w v.toInt)) y_Whole_becomeLong (xbk y_Whole_becomeLong 16) [.ref w, .long v, xj] [.long (Int64.ofInt (v.toInt.natAbs : Nat)), .ref (w + 1)] o := by
    refine RW.cv rfl rfl (xrc_v rfl rfl hw.2.2.1.1.1) rfl rfl (c_becomeLong hw.2.2.1 hn) ?_
    intro o1 ho1
    subst ho1
    refine RW.ps 4 rfl ?_
    refine RW.ifc (fun h3 => ?_) (fun h3 => ?_)
    · refine RW.ps 1 rfl ?_
      refine RW.weak (lv0 := []) trivial ?_
      exact hfin false (neg_f (hge.mp h3)).symm
    · refine RW.ps 1 rfl ?_
      refine RW.go ?_
      refine RW.weak (lv0 := []) trivial ?_
      exact hfin true (neg_t (Int.not_le.mp (fun k => h3 (hge.mpr k)))).symm
  refine RW.ps 1 rfl ?_
  refine RW.gf hw.1 hw.2.1 ?_
  refine RW.ps 3 rfl ?_
  refine RW.ifc (fun h3 => ?_) (fun h3 => ?_)
  · have h4 := hge.mp h3
    refine RW.ps 1 rfl ?_
    have e : v = Int64.ofInt (v.toInt.natAbs : Nat) := by
      rw [show ((v.toInt.natAbs : Nat) : Int) = v.toInt by omega, Int64.ofInt_toInt]
    rw [← e] at h16
    exact h16
  · have h4 : v.toInt < 0 := Int.not_le.mp (fun k => h3 (hge.mpr k))
    refine RW.ps 2 rfl ?_
    refine RW.go ?_
    have e : -v = Int64.ofInt (v.toInt.natAbs : Nat) := by
      rw [show ((v.toInt.natAbs : Nat) : Int) = -v.toInt by omega, Int64.ofInt_neg, Int64.ofInt_toInt]
    rw [← e] at h16
    exact h16
theorem bit_of {x W b n : Nat} (hn : n = 31 * W + b) (hb : b < 31) : dg x W / 2 ^ b % 2 = x / 2 ^ n % 2 := by
  obtain ⟨c, hc⟩ : ∃ c, 31 = b + (c + 1) := ⟨31 - b - 1, by omega⟩
  have e : 2147483648 = 2 ^ b * (2 * 2 ^ c) := by rw [← Nat.pow_succ', ← Nat.pow_add, ← hc]
  have hp : 0 < 2 ^ b := Nat.two_pow_pos b
  have e1 : x / 2 ^ n = x / 2147483648 ^ W / 2 ^ b := by rw [Nat.div_div_eq_div_mul, hn, Nat.pow_add, b31]
  rw [e1]
  unfold dg
  generalize x / 2147483648 ^ W = q
  have h1 := Nat.div_add_mod q 2147483648
  generalize q % 2147483648 = r at h1
  generalize q / 2147483648 = m at h1
  rw [← h1, e, Nat.mul_assoc, Nat.mul_add_div hp, Nat.mul_assoc, Nat.mul_add_mod]
theorem c_hasOne {o : xO} {r x n : Nat} {nw : Int32} (hr : Rn o r x) (hn : nw.toInt = (n : Int)) (hn2 : n < 2147483648) : Cp y_Row_hasOne [.ref r, .int nw] o (.int (sg (decide (x / 2 ^ n % 2 = 1)))) := by
  have hpd : n = 31 * (n / 31) + n % 31 := by omega
  have hbl : n % 31 < 31 := by omega
  have hW2 : n / 31 < 2147483648 / 31 + 1 := by omega
  have hbit := bit_of (x := x) hpd hbl
  rw [← hbit]
  refine RW.ps 3 rfl ?_
  refine RW.idv (by decide) ?_
  rw [i_of hn, show (31 : Int32) = Int32.ofInt ((31 : Nat) : Int) by decide, i_div hn2 (by decide)]
  have hd := dg_lt x (n / 31)
  refine RW.cp rfl rfl (xrc_v rfl rfl hr.1.1) rfl rfl (c_dg hr.1 (iu (by omega)) hr.2.1 (by rw [hr.2.2.1]; rfl)) ?_
  refine RW.ps 2 rfl ?_
  refine RW.irm (by decide) ?_
  have e31 : Int32.ofInt (n : Int) - Int32.ofInt (n : Int) / 31 * 31 = Int32.ofInt ((n % 31 : Nat) : Int) := i_rem hn2 (by decide)
  first | rw [e31] | rw [i_rem hn2 (by decide)]
  refine RW.ps 1 rfl ?_
  rw [n_shr (k := n % 31) (iu (by omega)) (by omega) (by omega)]
  have hq : dg x (n / 31) / 2 ^ (n % 31) < 2147483648 := Nat.lt_of_le_of_lt (Nat.div_le_self _ _) hd
  generalize dg x (n / 31) / 2 ^ (n % 31) = q at hq
  refine RW.ps 2 rfl ?_
  rw [li_and1]
  refine RW.ps 2 rfl ?_
  refine RW.ifc (fun h => ?_) (fun h => ?_)
  · rw [xi_ne, show (1 : Int64) = Int64.ofInt 1 by decide, cmp_toInt (by omega) (by omega) (by omega) (by omega), i0] at h
    have hq1 : q % 2 ≠ 1 := fun k => h (by rw [if_neg (by omega), if_pos (by omega)])
    rw [decide_eq_false hq1]
    refine RW.ps 1 rfl ?_
    exact RW.re rfl rfl ⟨rfl, rfl⟩
  · rw [xi_ne, show (1 : Int64) = Int64.ofInt 1 by decide, cmp_toInt (by omega) (by omega) (by omega) (by omega), i0] at h
    have hq1 : q % 2 = 1 := by
      rcases Nat.mod_two_eq_zero_or_one q with k | k
      · exfalso; apply h; rw [k]; decide
      · exact k
    rw [decide_eq_true hq1]
    refine RW.ps 1 rfl ?_
    refine RW.go ?_
    exact RW.re rfl rfl ⟨rfl, rfl⟩
