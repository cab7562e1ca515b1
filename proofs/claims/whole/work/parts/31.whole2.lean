/-! WHOLES: sums, cores, order. -/
theorem Wn.amount {o : xO} {w n : Nat} {z z' : Int} (h : Wn o w z) (hn : n < BIG) (hz : z'.natAbs = n) (hs : neg z' = neg z) : Wn (sNum o (w + 1) n) w z' :=
  ⟨h.1, (sRow_f_ne (by omega) 0).trans h.2.1, by rw [hz]; exact Rn.num h.2.2.1 hn, by rw [hs]; exact (sRow_f_ne (by omega) 1).trans h.2.2.2⟩
theorem Fr.amount {o : xO} {w n : Nat} : Fr [(w, 3)] o (sNum o (w + 1) n) := Fr.up Fr.num (fun b hb => ⟨by have := hb.1; dsimp only at this ⊢; omega, trivial⟩)
theorem sgn_cases (z : Int) : (neg z = true ∧ z < 0) ∨ (neg z = false ∧ 0 ≤ z) := by
  unfold neg
  by_cases h : z < 0
  · exact Or.inl ⟨decide_eq_true h, h⟩
  · exact Or.inr ⟨decide_eq_false h, by omega⟩
theorem neg_t {z : Int} (h : z < 0) : neg z = true := decide_eq_true h
theorem neg_f {z : Int} (h : 0 ≤ z) : neg z = false := decide_eq_false (by omega)
def plus (x y : Int) (m : Bool) : Int := if m then x - y else x + y
theorem plus_same {x y : Int} {m : Bool} (h : neg x = (neg y != m)) : (plus x y m).natAbs = x.natAbs + y.natAbs ∧ neg (plus x y m) = neg x := by
  unfold plus
  rcases sgn_cases x with ⟨h1, h2⟩ | ⟨h1, h2⟩ <;> rcases sgn_cases y with ⟨h3, h4⟩ | ⟨h3, h4⟩ <;> rw [h1, h3] at h <;> cases m <;> first
    | (exact absurd h (by decide))
    | (rw [h1]
       constructor
       · simp; omega
       · first
         | exact neg_t (by first | omega | (simp; omega) | simp)
         | exact neg_f (by first | omega | (simp; omega) | simp))
theorem plus_less {x y : Int} {m : Bool} (h : neg x ≠ (neg y != m)) (hxy : y.natAbs ≤ x.natAbs) : (plus x y m).natAbs = x.natAbs - y.natAbs ∧ neg (plus x y m) = (neg x && decide (x.natAbs - y.natAbs ≠ 0)) := by
  unfold plus
  have e : ∀ b : Bool, (b && decide (x.natAbs - y.natAbs ≠ 0)) = if y.natAbs = x.natAbs then false else b := by
    intro b
    by_cases hh : y.natAbs = x.natAbs
    · rw [if_pos hh, decide_eq_false (by omega), Bool.and_false]
    · rw [if_neg hh, decide_eq_true (by omega), Bool.and_true]
  rw [e]
  rcases sgn_cases x with ⟨h1, h2⟩ | ⟨h1, h2⟩ <;> rcases sgn_cases y with ⟨h3, h4⟩ | ⟨h3, h4⟩ <;> rw [h1, h3] at h <;> cases m <;> first
    | (exact absurd rfl h)
    | (rw [h1]
       constructor
       · simp; omega
       · by_cases hh : y.natAbs = x.natAbs
         · rw [if_pos hh]; exact neg_f (by first | omega | (simp; omega) | simp)
         · rw [if_neg hh]
           first
           | exact neg_t (by first | omega | (simp; omega) | simp)
           | exact neg_f (by first | omega | (simp; omega) | simp))
theorem plus_more {x y : Int} {m : Bool} (h : neg x ≠ (neg y != m)) (hxy : x.natAbs < y.natAbs) : (plus x y m).natAbs = y.natAbs - x.natAbs ∧ neg (plus x y m) = (neg y != m) := by
  unfold plus
  rcases sgn_cases x with ⟨h1, h2⟩ | ⟨h1, h2⟩ <;> rcases sgn_cases y with ⟨h3, h4⟩ | ⟨h3, h4⟩ <;> rw [h1, h3] at h <;> cases m <;> first
    | (exact absurd rfl h)
    | (rw [h3]
       constructor
       · simp; omega
       · first
         | exact neg_t (by first | omega | (simp; omega) | simp)
         | exact neg_f (by first | omega | (simp; omega) | simp))
theorem cmpI_lt0 {x y : Nat} : (cmpI x y).toInt < (0 : Int32).toInt ↔ x < y := by
  unfold cmpI
  by_cases h : x < y
  · rw [if_pos h]; exact ⟨fun _ => h, fun _ => by decide⟩
  · rw [if_neg h]
    refine ⟨fun k => ?_, fun k => absurd k h⟩
    by_cases h' : x = y
    · rw [if_pos h'] at k; exact absurd k (by decide)
    · rw [if_neg h'] at k; exact absurd k (by decide)
theorem c_becomeSum {o : xO} {w a b : Nat} {z x y : Int} {m : Bool} (hw : Wn o w z) (ha : Wn o a x) (hb : Wn o b y) (hwa : w + 3 ≤ a ∨ a + 3 ≤ w) (hwb : w + 3 ≤ b ∨ b + 3 ≤ w) (hn : x.natAbs + y.natAbs < BIG) : Cv y_Whole_becomeSum [.ref w, .ref a, .ref b, .int (sg m)] o (fun o' => Fr [(w, 3)] o o' ∧ Wn o' w (plus x y m)) := by
  have oa0 : Out [(w, 3)] a := ⟨by dsimp only; omega, trivial⟩
  have oa1 : Out [(w, 3)] (a + 1) := ⟨by dsimp only; omega, trivial⟩
  have oa2 : Out [(w, 3)] (a + 2) := ⟨by dsimp only; omega, trivial⟩
  have ob0 : Out [(w, 3)] b := ⟨by dsimp only; omega, trivial⟩
  have ob1 : Out [(w, 3)] (b + 1) := ⟨by dsimp only; omega, trivial⟩
  have ob2 : Out [(w, 3)] (b + 2) := ⟨by dsimp only; omega, trivial⟩
  have h13 : ∀ s : Bool, s = (neg y != m) → RW (fun r o' => r = .inl none ∧ (Fr [(w, 3)] o o' ∧ Wn o' w (plus x y m))) y_Whole_becomeSum (xbk y_Whole_becomeSum 13) [.ref w, .ref a, .ref b, .int (sg m), xj] [.int (sg s)] o := by
    intro s hs
    refine RW.ps 2 rfl ?_
    refine RW.gf ha.1 ha.2.2.2 ?_
    refine RW.ps 1 rfl ?_
    refine RW.icm (fun h1 => ?_) (fun h1 => ?_)
    · rw [xi_ne, ne_eq, sg_eq, hs] at h1
      refine RW.ps 1 rfl ?_
      refine RW.gf ha.1 ha.2.1 ?_
      refine RW.ps 1 rfl ?_
      refine RW.gf hb.1 hb.2.1 ?_
      refine RW.cp rfl rfl (xrc_v rfl rfl ha.2.2.1.1.1) rfl rfl (c_against ha.2.2.1 hb.2.2.1) ?_
      refine RW.ifc (fun h2 => ?_) (fun h2 => ?_)
      · rw [xi_lt, cmpI_lt0] at h2
        obtain ⟨e1, e2⟩ := plus_more h1 h2
        refine RW.ps 2 rfl ?_
        refine RW.gf hb.1 hb.2.1 ?_
        refine RW.ps 1 rfl ?_
        refine RW.cv rfl rfl (xrc_v rfl rfl hw.1) rfl rfl (c_becomeSigned hw hb.2.2.1) ?_
        intro o1 ⟨hf, hw1⟩
        have ha1 := ha.fr hf oa0 oa1 oa2
        refine RW.ps 1 rfl ?_
        refine RW.gf hw1.1 hw1.2.1 ?_
        refine RW.ps 1 rfl ?_
        refine RW.gf ha1.1 ha1.2.1 ?_
        have hwr := hw1.2.2.1
        rw [mkz_abs] at hwr
        refine RW.cv rfl rfl (xrc_v rfl rfl hwr.1.1) rfl rfl (c_take hwr ha1.2.2.1 (by omega) (by omega)) ?_
        intro o2 ho2
        subst ho2
        refine RW.re rfl rfl ⟨rfl, hf.trans Fr.amount, hw1.amount (by omega) e1 ?_⟩
        rw [e2, mkz_neg, decide_eq_true (by omega), Bool.and_true, hs]
      · rw [xi_lt, cmpI_lt0] at h2
        obtain ⟨e1, e2⟩ := plus_less h1 (by omega)
        have hrow := Rn.num hw.2.2.1 ha.2.2.1.2.1
        refine RW.ps 1 rfl ?_
        refine RW.gf hw.1 hw.2.1 ?_
        refine RW.ps 1 rfl ?_
        refine RW.gf ha.1 ha.2.1 ?_
        refine RW.cv rfl rfl (xrc_v rfl rfl hw.2.2.1.1.1) rfl rfl (c_become hw.2.2.1 ha.2.2.1) ?_
        intro o1 ho1
        have hf : Fr [(w, 3)] o o1 := by subst ho1; exact Fr.amount
        subst ho1
        have hb1 := hb.fr hf ob0 ob1 ob2
        have hf0 : xf (sNum o (w + 1) x.natAbs) w 0 = .ref (w + 1) := (sRow_f_ne (by omega) 0).trans hw.2.1
        refine RW.ps 1 rfl ?_
        refine RW.gf hw.1 hf0 ?_
        refine RW.ps 1 rfl ?_
        refine RW.gf hb1.1 hb1.2.1 ?_
        refine RW.cv rfl rfl (xrc_v rfl rfl hrow.1.1) rfl rfl (c_take hrow hb1.2.2.1 (by omega) (by omega)) ?_
        intro o2 ho2
        rw [sNum, sNum, sRow_s] at ho2
        subst ho2
        have hnn : x.natAbs - y.natAbs < BIG := by omega
        have hrow2 := Rn.num hw.2.2.1 hnn
        have hf2 : Fr [(w, 3)] o (sNum o (w + 1) (x.natAbs - y.natAbs)) := Fr.amount
        have ha2 := ha.fr hf2 oa0 oa1 oa2
        have hf02 : xf (sNum o (w + 1) (x.natAbs - y.natAbs)) w 0 = .ref (w + 1) := (sRow_f_ne (by omega) 0).trans hw.2.1
        have hfin : ∀ c : Bool, c = neg (plus x y m) → RW (fun r o' => r = .inl none ∧ (Fr [(w, 3)] o o' ∧ Wn o' w (plus x y m))) y_Whole_becomeSum (xbk y_Whole_becomeSum 109) [] [.int (sg c), .ref w] (sNum o (w + 1) (x.natAbs - y.natAbs)) := by
          intro c hc
          refine RW.pf hw.1 (narrow_sg c) (fits_sg c) ?_
          refine RW.go ?_
          refine RW.re rfl rfl ⟨rfl, ?_⟩
          rw [hc]
          exact ⟨Fr.whole, hw.put hnn e1⟩
        refine RW.ps 2 rfl ?_
        refine RW.gf ha2.1 ha2.2.2.2 ?_
        refine RW.ifc (fun h3 => ?_) (fun h3 => ?_)
        · rw [xi_eq] at h3
          refine RW.ps 1 rfl ?_
          refine RW.weak (lv0 := []) trivial ?_
          exact hfin false (by rw [e2, show neg x = false from sg_eq.mp h3]; rfl)
        · have h3 : neg x = true := by
            cases hx : neg x with
            | true => rfl
            | false => rw [hx] at h3; exact absurd rfl h3
          refine RW.ps 1 rfl ?_
          refine RW.gf hw.1 hf02 ?_
          refine RW.cp rfl rfl (xrc_v rfl rfl hrow2.1.1) rfl rfl (c_isZero hrow2) ?_
          by_cases h0 : x.natAbs - y.natAbs = 0
          · rw [if_pos h0]
            refine RW.ifc (fun _ => ?_) (fun h2 => absurd (xi_ne.mpr (by decide)) h2)
            refine RW.ps 1 rfl ?_
            refine RW.weak (lv0 := []) trivial ?_
            exact hfin false (by rw [e2, h0]; simp)
          · rw [if_neg h0]
            refine RW.ifc (fun h2 => absurd rfl (xi_ne.mp h2)) (fun _ => ?_)
            refine RW.ps 1 rfl ?_
            refine RW.go ?_
            refine RW.weak (lv0 := []) trivial ?_
            exact hfin true (by rw [e2, h3, decide_eq_true h0]; rfl)
    · have h1 : neg x = (neg y != m) := by
        rw [← hs]
        cases hx : neg x <;> cases s <;> first
          | rfl
          | (rw [hx] at h1; exact absurd (xi_ne.mpr (by decide)) h1)
      obtain ⟨e1, e2⟩ := plus_same h1
      refine RW.ps 2 rfl ?_
      refine RW.gf ha.1 ha.2.1 ?_
      refine RW.ps 1 rfl ?_
      refine RW.gf ha.1 ha.2.2.2 ?_
      refine RW.cv rfl rfl (xrc_v rfl rfl hw.1) rfl rfl (c_becomeSigned hw ha.2.2.1) ?_
      intro o1 ⟨hf, hw1⟩
      rw [mkz_self] at hw1
      have hb1 := hb.fr hf ob0 ob1 ob2
      refine RW.ps 1 rfl ?_
      refine RW.gf hw1.1 hw1.2.1 ?_
      refine RW.ps 1 rfl ?_
      refine RW.gf hb1.1 hb1.2.1 ?_
      refine RW.cv rfl rfl (xrc_v rfl rfl hw1.2.2.1.1.1) rfl rfl (c_add hw1.2.2.1 hb1.2.2.1 hn) ?_
      intro o2 ho2
      subst ho2
      refine RW.go ?_
      exact RW.re rfl rfl ⟨rfl, hf.trans Fr.amount, hw1.amount hn e1 e2⟩
  refine RW.ps 1 rfl ?_
  refine RW.gf hb.1 hb.2.2.2 ?_
  refine RW.ps 1 rfl ?_
  refine RW.icm (fun h1 => ?_) (fun h1 => ?_)
  · rw [xi_eq, sg_eq] at h1
    refine RW.ps 1 rfl ?_
    exact h13 false (by rw [h1]; simp)
  · have h1 : neg y ≠ m := fun k => h1 (by rw [k]; rfl)
    refine RW.ps 1 rfl ?_
    refine RW.go ?_
    exact h13 true (by simp [h1])
