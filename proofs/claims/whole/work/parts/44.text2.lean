/-! TEXT: hasHyphen, digit. -/
def hy (l : List Int32) : Bool := decide (0 < l.length) && decide ((l.getD 0 0).toInt = 45)
theorem c_hasHyphen {o : xO} {t : Nat} {l : List Int32} (h : Tx o t l) : Cp y_Text_hasHyphen [.ref t] o (.int (sg (hy l))) := by
  obtain ⟨h1, h2, h3, h4, h5, h6⟩ := h
  refine RW.ps 1 rfl ?_
  refine RW.gf h1 h5 ?_
  refine RW.ifc (fun k => ?_) (fun k => ?_)
  · rw [xi_le, iu (by omega), i0] at k
    refine RW.ps 1 rfl ?_
    refine RW.re rfl rfl ⟨?_, rfl⟩
    unfold hy; rw [decide_eq_false (show ¬ 0 < l.length by omega)]; rfl
  · rw [xi_le, iu (by omega), i0] at k
    have hl : 0 < l.length := by omega
    refine RW.ps 1 rfl ?_
    refine RW.gf h1 h2 ?_
    refine RW.ps 1 rfl ?_
    refine RW.ia h3 (k := 0) rfl (by decide) ?_
    refine RW.ps 1 rfl ?_
    unfold hy
    rw [h6 0 hl, decide_eq_true hl]
    refine RW.icm (fun k => ?_) (fun k => ?_)
    · rw [xi_ne, show (45 : Int32).toInt = 45 from rfl] at k
      refine RW.ps 1 rfl ?_
      refine RW.re rfl rfl ⟨?_, rfl⟩
      rw [decide_eq_false k]; rfl
    · rw [xi_ne, show (45 : Int32).toInt = 45 from rfl] at k
      refine RW.ps 1 rfl ?_
      refine RW.go ?_
      refine RW.re rfl rfl ⟨?_, rfl⟩
      rw [decide_eq_true (by omega)]; rfl
/-- what a character is worth as a digit, 36 if none -/
def dgt (c : Int32) : Nat := if 48 ≤ c.toInt ∧ c.toInt ≤ 57 then (c.toInt - 48).toNat else if 65 ≤ c.toInt ∧ c.toInt ≤ 90 then (c.toInt - 55).toNat else if 97 ≤ c.toInt ∧ c.toInt ≤ 122 then (c.toInt - 87).toNat else 36
theorem dgt_le (c : Int32) : dgt c ≤ 36 := by
  unfold dgt
  split
  · omega
  · split
    · omega
    · split <;> omega
