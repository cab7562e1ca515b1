/-! WHAT A CALL LEAVES ALONE: all outside of some ranges of addresses. -/
def Out : List (Nat × Nat) → Nat → Prop
  | [], _ => True
  | p :: l, b => (b < p.1 ∨ p.1 + p.2 ≤ b) ∧ Out l b
theorem Out.app {l m : List (Nat × Nat)} {b : Nat} : Out (l ++ m) b ↔ Out l b ∧ Out m b := by
  induction l with
  | nil => exact ⟨fun h => ⟨trivial, h⟩, fun h => h.2⟩
  | cons p l ih => exact ⟨fun h => ⟨⟨h.1, (ih.mp h.2).1⟩, (ih.mp h.2).2⟩, fun h => ⟨h.1.1, ih.mpr ⟨h.1.2, h.2⟩⟩⟩
def Fr (S : List (Nat × Nat)) (o o' : xO) : Prop := o'.1 = o.1 ∧ o'.2.2.2 = o.2.2.2 ∧ ∀ b, Out S b → xi o' b = xi o b ∧ xf o' b = xf o b
theorem Fr.refl (S : List (Nat × Nat)) (o : xO) : Fr S o o := ⟨rfl, rfl, fun _ _ => ⟨rfl, rfl⟩⟩
theorem Fr.trans {S : List (Nat × Nat)} {o o' o2 : xO} (h : Fr S o o') (k : Fr S o' o2) : Fr S o o2 :=
  ⟨k.1.trans h.1, k.2.1.trans h.2.1, fun b hb => ⟨(k.2.2 b hb).1.trans (h.2.2 b hb).1, (k.2.2 b hb).2.trans (h.2.2 b hb).2⟩⟩
theorem Fr.up {S T : List (Nat × Nat)} {o o' : xO} (h : Fr S o o') (hs : ∀ b, Out T b → Out S b) : Fr T o o' := ⟨h.1, h.2.1, fun b hb => h.2.2 b (hs b hb)⟩
section FRS
variable {S : List (Nat × Nat)} {o o' : xO} {b : Nat}
theorem Fr.k (h : Fr S o o') : xk o' b = xk o b := by unfold xk; rw [h.1]
theorem Fr.f (h : Fr S o o') (hb : Out S b) (j : Nat) : xf o' b j = xf o b j := by rw [(h.2.2 b hb).2]
theorem Fr.i (h : Fr S o o') (hb : Out S b) : xi o' b = xi o b := (h.2.2 b hb).1
theorem Fr.z (h : Fr S o o') : xz o' = xz o ∧ xc o' = xc o ∧ xn o' = xn o := by unfold xz xc xn; rw [h.2.1]; exact ⟨rfl, rfl, rfl⟩
theorem Fr.row {r : Nat} {f : Nat → Int32} {u : Nat} : Fr [(r, 2)] o (sRow o r f u) :=
  ⟨rfl, rfl, fun b hb => ⟨sRow_i_ne (by have := hb.1; omega), by funext j; exact sRow_f_ne (by have := hb.1; omega) j⟩⟩
theorem Fr.num {r x : Nat} : Fr [(r, 2)] o (sNum o r x) := Fr.row
theorem Fr.pf {a j : Nat} {v : Value} : Fr [(a, 1)] o (xpf o a j v) :=
  ⟨rfl, rfl, fun b hb => ⟨rfl, by funext k; exact if_neg (fun z => by have := hb.1; have := z.1; omega)⟩⟩
theorem Fr.pi {a j : Nat} {v : Int32} : Fr [(a, 1)] o (xpi o a j v) :=
  ⟨rfl, rfl, fun b hb => ⟨by funext k; exact if_neg (fun z => by have := hb.1; have := z.1; omega), rfl⟩⟩
end FRS
theorem xpf_same {o : xO} {a j : Nat} {v : Value} : xf (xpf o a j v) a j = v := if_pos ⟨rfl, rfl⟩
theorem xpf_ne {o : xO} {a j b k : Nat} {v : Value} (h : b = a → k ≠ j) : xf (xpf o a j v) b k = xf o b k := if_neg (fun z => h z.1 z.2)
theorem IsRow.fr {S : List (Nat × Nat)} {o o' : xO} {r : Nat} (h : IsRow o r) (hf : Fr S o o') (hr : Out S r) : IsRow o' r := ⟨by rw [hf.k]; exact h.1, by rw [hf.f hr]; exact h.2.1, by rw [hf.k]; exact h.2.2⟩
theorem Rn.fr {S : List (Nat × Nat)} {o o' : xO} {r x : Nat} (h : Rn o r x) (hf : Fr S o o') (hr : Out S r) (hr1 : Out S (r + 1)) : Rn o' r x :=
  ⟨h.1.fr hf hr, h.2.1, by rw [hf.i hr1]; exact h.2.2.1, by rw [hf.f hr]; exact h.2.2.2⟩
theorem Rn.num {o : xO} {r x y : Nat} (h : Rn o r x) (hy : y < BIG) : Rn (sNum o r y) r y := Rn.set h.1 hy
/-- a row that holds some number -/
def Rx (o : xO) (r : Nat) : Prop := ∃ x, Rn o r x
theorem Rx.fr {S : List (Nat × Nat)} {o o' : xO} {r : Nat} (h : Rx o r) (hf : Fr S o o') (hr : Out S r) (hr1 : Out S (r + 1)) : Rx o' r := h.elim (fun x hx => ⟨x, hx.fr hf hr hr1⟩)
/-! WHOLES: the whole at w, its row at w+1, the limbs at w+2. -/
def sg (b : Bool) : Int32 := if b then 1 else 0
def neg (z : Int) : Bool := decide (z < 0)
def Wn (o : xO) (w : Nat) (z : Int) : Prop := xk o w = (3, 1) ∧ xf o w 0 = .ref (w + 1) ∧ Rn o (w + 1) z.natAbs ∧ xf o w 1 = .int (sg (neg z))
theorem Wn.fr {S : List (Nat × Nat)} {o o' : xO} {w : Nat} {z : Int} (h : Wn o w z) (hf : Fr S o o') (h0 : Out S w) (h1 : Out S (w + 1)) (h2 : Out S (w + 2)) : Wn o' w z :=
  ⟨by rw [hf.k]; exact h.1, by rw [hf.f h0]; exact h.2.1, h.2.2.1.fr hf h1 h2, by rw [hf.f h0]; exact h.2.2.2⟩
theorem sg_ne {b : Bool} : (sg b).toInt ≠ (0 : Int32).toInt ↔ b = true := by cases b <;> decide
theorem sg_eq {b c : Bool} : (sg b).toInt = (sg c).toInt ↔ b = c := by cases b <;> cases c <;> decide
/-- a number of that amount and that sign (0 has none) -/
def mkz (n : Nat) (b : Bool) : Int := if b then -(n : Int) else n
theorem mkz_abs (n : Nat) (b : Bool) : (mkz n b).natAbs = n := by cases b <;> simp [mkz]
theorem mkz_neg {n : Nat} {b : Bool} : neg (mkz n b) = (b && decide (n ≠ 0)) := by
  cases b with
  | false => exact decide_eq_false (show ¬ ((n : Int) < 0) by omega)
  | true =>
    show decide (-(n : Int) < 0) = decide (n ≠ 0)
    by_cases h : n = 0
    · rw [decide_eq_false (by omega), decide_eq_false (by omega)]
    · rw [decide_eq_true (by omega), decide_eq_true h]
theorem mkz_self (z : Int) : mkz z.natAbs (neg z) = z := by
  unfold mkz neg
  by_cases h : z < 0
  · rw [decide_eq_true h, if_pos rfl]; omega
  · rw [decide_eq_false h]; simp; omega
theorem Wn.put {o : xO} {w n : Nat} {z z' : Int} (h : Wn o w z) (hn : n < BIG) (hz : z'.natAbs = n) : Wn (xpf (sNum o (w + 1) n) w 1 (.int (sg (neg z')))) w z' := by
  have hf : Fr [(w, 1)] (sNum o (w + 1) n) (xpf (sNum o (w + 1) n) w 1 (.int (sg (neg z')))) := Fr.pf
  refine ⟨h.1, ?_, ?_, xpf_same⟩
  · rw [xpf_ne (fun _ => by decide), sNum, sRow_f_ne (by omega)]; exact h.2.1
  · rw [hz]
    exact (Rn.num h.2.2.1 hn).fr hf ⟨by dsimp only; omega, trivial⟩ ⟨by dsimp only; omega, trivial⟩
theorem Fr.whole {o : xO} {w n : Nat} {v : Value} : Fr [(w, 3)] o (xpf (sNum o (w + 1) n) w 1 v) :=
  Fr.trans (Fr.up Fr.num (fun b hb => ⟨by have := hb.1; dsimp only at this ⊢; omega, trivial⟩)) (Fr.up Fr.pf (fun b hb => ⟨by have := hb.1; dsimp only at this ⊢; omega, trivial⟩))
theorem narrow_sg (b : Bool) : narrow (xft 1 1) (.int (sg b)) = .int (sg b) := by cases b <;> rfl
theorem fits_sg (b : Bool) : fits (xft 1 1) (.int (sg b)) = true := by cases b <;> rfl
theorem sg_b {c : Bool} : (Value.int (if c = true then 1 else 0)) = .int (sg c) := rfl
theorem c_becomeSigned {o : xO} {w a y : Nat} {z : Int} {b : Bool} (hw : Wn o w z) (ha : Rn o a y) : Cv y_Whole_becomeSigned [.ref w, .ref a, .int (sg b)] o (fun o' => Fr [(w, 3)] o o' ∧ Wn o' w (mkz y b)) := by
  have hfin : ∀ c : Bool, c = neg (mkz y b) → RW (fun r o' => r = .inl none ∧ (Fr [(w, 3)] o o' ∧ Wn o' w (mkz y b))) y_Whole_becomeSigned (xbk y_Whole_becomeSigned 28) [] [.int (sg c), .ref w] (sNum o (w + 1) y) := by
    intro c hc
    refine RW.pf hw.1 (narrow_sg c) (fits_sg c) ?_
    refine RW.re rfl rfl ⟨rfl, ?_⟩
    rw [hc]
    exact ⟨Fr.whole, hw.put ha.2.1 (mkz_abs y b)⟩
  have hrow := Rn.num hw.2.2.1 ha.2.1
  have hf0 : xf (sNum o (w + 1) y) w 0 = .ref (w + 1) := (sRow_f_ne (by omega) 0).trans hw.2.1
  refine RW.ps 1 rfl ?_
  refine RW.gf hw.1 hw.2.1 ?_
  refine RW.ps 1 rfl ?_
  refine RW.cv rfl rfl (xrc_v rfl rfl hw.2.2.1.1.1) rfl rfl (c_become hw.2.2.1 ha) ?_
  intro o' ho'
  subst ho'
  refine RW.ps 2 rfl ?_
  refine RW.ifc (fun h1 => ?_) (fun h1 => ?_)
  · rw [xi_eq] at h1
    have hb : b = false := by cases b with
      | false => rfl
      | true => exact absurd h1 (by decide)
    refine RW.ps 1 rfl ?_
    refine RW.weak (lv0 := []) trivial ?_
    exact hfin false (by rw [mkz_neg, hb]; rfl)
  · have hb : b = true := by cases b with
      | false => exact absurd (xi_eq.mpr (by decide)) h1
      | true => rfl
    refine RW.ps 1 rfl ?_
    refine RW.gf hw.1 hf0 ?_
    refine RW.cp rfl rfl (xrc_v rfl rfl hrow.1.1) rfl rfl (c_isZero hrow) ?_
    by_cases hy : y = 0
    · rw [if_pos hy]
      refine RW.ifc (fun _ => ?_) (fun h2 => absurd (xi_ne.mpr (by decide)) h2)
      refine RW.ps 1 rfl ?_
      refine RW.weak (lv0 := []) trivial ?_
      exact hfin false (by rw [mkz_neg, hb, hy]; rfl)
    · rw [if_neg hy]
      refine RW.ifc (fun h2 => absurd rfl (xi_ne.mp h2)) (fun _ => ?_)
      refine RW.ps 1 rfl ?_
      refine RW.go ?_
      refine RW.weak (lv0 := []) trivial ?_
      exact hfin true (by rw [mkz_neg, hb, decide_eq_true hy]; rfl)
theorem c_wBecome {o : xO} {w a : Nat} {z x : Int} (hw : Wn o w z) (ha : Wn o a x) : Cv y_Whole_become [.ref w, .ref a] o (fun o' => Fr [(w, 3)] o o' ∧ Wn o' w x) := by
  refine RW.ps 2 rfl ?_
  refine RW.gf ha.1 ha.2.1 ?_
  refine RW.ps 1 rfl ?_
  refine RW.gf ha.1 ha.2.2.2 ?_
  refine RW.cv rfl rfl (xrc_v rfl rfl hw.1) rfl rfl (c_becomeSigned hw ha.2.2.1) ?_
  intro o' ho'
  rw [mkz_self] at ho'
  exact RW.re rfl rfl ⟨rfl, ho'⟩
theorem c_wIsZero {o : xO} {w : Nat} {z : Int} (hw : Wn o w z) : Cp y_Whole_isZero [.ref w] o (.int (if z = 0 then 1 else 0)) := by
  refine RW.ps 1 rfl ?_
  refine RW.gf hw.1 hw.2.1 ?_
  refine RW.cp rfl rfl (xrc_v rfl rfl hw.2.2.1.1.1) rfl rfl (c_isZero hw.2.2.1) ?_
  by_cases h : z = 0
  · rw [if_pos h, if_pos (by omega)]
    exact RW.re rfl rfl ⟨rfl, rfl⟩
  · rw [if_neg h, if_neg (by omega)]
    exact RW.re rfl rfl ⟨rfl, rfl⟩
/-- .. of a product -/
theorem c_wBecomeProduct {o : xO} {w a b : Nat} {z x y : Int} (hw : Wn o w z) (ha : Wn o a x) (hb : Wn o b y) (hwa : w + 3 ≤ a ∨ a + 3 ≤ w) (hwb : w + 3 ≤ b ∨ b + 3 ≤ w) (hn : nl x.natAbs + nl y.natAbs ≤ 538) : Cv y_Whole_becomeProduct [.ref w, .ref a, .ref b] o (fun o' => Fr [(w, 3)] o o' ∧ Wn o' w (x * y)) := by
  have hxy : (x * y).natAbs = x.natAbs * y.natAbs := Int.natAbs_mul x y
  have hBig : x.natAbs * y.natAbs < BIG := by
    have h1 := nl_le.mp (Nat.le_refl (nl x.natAbs))
    have h2 := nl_le.mp (Nat.le_refl (nl y.natAbs))
    have h3 := Nat.mul_lt_mul'' h1 h2
    rw [← Nat.pow_add] at h3
    exact Nat.lt_of_lt_of_le h3 (Nat.pow_le_pow_right (by decide) (by omega))
  have hneg : neg (x * y) = ((neg x != neg y) && decide (x.natAbs * y.natAbs ≠ 0)) := by
    have e1 : x.natAbs * y.natAbs ≠ 0 ↔ x ≠ 0 ∧ y ≠ 0 := by rw [Nat.mul_ne_zero_iff]; omega
    unfold neg
    rcases Int.lt_trichotomy x 0 with hx | hx | hx
    · rcases Int.lt_trichotomy y 0 with hy | hy | hy
      · rw [decide_eq_true hx, decide_eq_true hy, decide_eq_false (Int.not_lt.mpr (Int.le_of_lt (Int.mul_pos_of_neg_of_neg hx hy)))]; rfl
      · subst hy; rw [Int.mul_zero]; simp
      · rw [decide_eq_true hx, decide_eq_false (show ¬ y < 0 by omega), decide_eq_true (Int.mul_neg_of_neg_of_pos hx hy), decide_eq_true (e1.mpr (by omega))]; rfl
    · subst hx; rw [Int.zero_mul]; simp
    · rcases Int.lt_trichotomy y 0 with hy | hy | hy
      · rw [decide_eq_false (show ¬ x < 0 by omega), decide_eq_true hy, decide_eq_true (Int.mul_neg_of_pos_of_neg hx hy), decide_eq_true (e1.mpr (by omega))]; rfl
      · subst hy; rw [Int.mul_zero]; simp
      · rw [decide_eq_false (show ¬ x < 0 by omega), decide_eq_false (show ¬ y < 0 by omega), decide_eq_false (Int.not_lt.mpr (Int.le_of_lt (Int.mul_pos hx hy)))]; rfl
  have hfin : ∀ c : Bool, c = neg (x * y) → RW (fun r o' => r = .inl none ∧ (Fr [(w, 3)] o o' ∧ Wn o' w (x * y))) y_Whole_becomeProduct (xbk y_Whole_becomeProduct 42) [] [.int (sg c), .ref w] (sNum o (w + 1) (x.natAbs * y.natAbs)) := by
    intro c hc
    refine RW.pf hw.1 (narrow_sg c) (fits_sg c) ?_
    refine RW.re rfl rfl ⟨rfl, ?_⟩
    rw [hc]
    exact ⟨Fr.whole, hw.put hBig hxy⟩
  have hrow := Rn.num hw.2.2.1 hBig
  have hf0 : xf (sNum o (w + 1) (x.natAbs * y.natAbs)) w 0 = .ref (w + 1) := (sRow_f_ne (by omega) 0).trans hw.2.1
  refine RW.ps 1 rfl ?_
  refine RW.gf hw.1 hw.2.1 ?_
  refine RW.ps 1 rfl ?_
  refine RW.gf ha.1 ha.2.1 ?_
  refine RW.ps 1 rfl ?_
  refine RW.gf hb.1 hb.2.1 ?_
  refine RW.cv rfl rfl (xrc_v rfl rfl hw.2.2.1.1.1) rfl rfl (c_becomeProduct hw.2.2.1 ha.2.2.1 hb.2.2.1 (by omega) (by omega) hn) ?_
  intro o' ho'
  subst ho'
  refine RW.ps 2 rfl ?_
  refine RW.gf ha.1 ((sRow_f_ne (by omega) 1).trans ha.2.2.2) ?_
  refine RW.ps 1 rfl ?_
  refine RW.gf hb.1 ((sRow_f_ne (by omega) 1).trans hb.2.2.2) ?_
  refine RW.icm (fun h1 => ?_) (fun h1 => ?_)
  · rw [xi_eq, sg_eq] at h1
    refine RW.ps 1 rfl ?_
    refine RW.weak (lv0 := []) trivial ?_
    exact hfin false (by rw [hneg, h1]; simp)
  · rw [xi_eq, sg_eq] at h1
    refine RW.ps 1 rfl ?_
    refine RW.gf hw.1 hf0 ?_
    refine RW.cp rfl rfl (xrc_v rfl rfl hrow.1.1) rfl rfl (c_isZero hrow) ?_
    by_cases h0 : x.natAbs * y.natAbs = 0
    · rw [if_pos h0]
      refine RW.ifc (fun _ => ?_) (fun h2 => absurd (xi_ne.mpr (by decide)) h2)
      refine RW.ps 1 rfl ?_
      refine RW.weak (lv0 := []) trivial ?_
      exact hfin false (by rw [hneg, h0]; simp)
    · rw [if_neg h0]
      refine RW.ifc (fun h2 => absurd rfl (xi_ne.mp h2)) (fun _ => ?_)
      refine RW.ps 1 rfl ?_
      refine RW.go ?_
      refine RW.weak (lv0 := []) trivial ?_
      exact hfin true (by rw [hneg, decide_eq_true h0]; simp [h1])
