/-! PAGE: character. -/
def chAt (l : List Int32) (i : Int32) : Int32 := if 0 ≤ i.toInt ∧ i.toInt < (l.length : Int) then l.getD (l.length - 1 - i.toInt.toNat) 0 else -1
theorem c_character {o : xO} {g : Nat} {l : List Int32} {i : Int32} (h : Px o g l) : Cp y_Page_character [.ref g, .int i] o (.int (chAt l i)) := by
  obtain ⟨h1, h2, h2', h3, h4, h5, h6⟩ := h
  have hi1 := i.le_toInt
  have hi2 := i.toInt_lt
  have h36 : ∀ c, c = chAt l i → RW (fun r' o' => r' = .inl (some (.int (chAt l i))) ∧ o' = o) y_Page_character (xbk y_Page_character 36) [] [.int c] o := by
    intro c hc
    subst hc
    exact RW.re rfl rfl ⟨rfl, rfl⟩
  have h35 : ¬ (0 ≤ i.toInt ∧ i.toInt < (l.length : Int)) → RW (fun r' o' => r' = .inl (some (.int (chAt l i))) ∧ o' = o) y_Page_character (xbk y_Page_character 35) [] [] o := by
    intro hn
    refine RW.ps 1 rfl ?_
    exact h36 (-1) (by unfold chAt; rw [if_neg hn])
  refine RW.ps 1 rfl ?_
  refine RW.gf h1 h5 ?_
  refine RW.ps 6 rfl ?_
  refine RW.ifc (fun k => ?_) (fun k => ?_)
  · rw [xi_lt, i0] at k
    refine RW.weak (lv0 := []) trivial ?_
    refine RW.sk [] rfl ?_
    exact h35 (by omega)
  rw [xi_lt, i0] at k
  have hp : (Int32.ofInt (l.length : Nat) - 1 - i).toInt = (l.length : Int) - 1 - i.toInt := by
    conv => lhs; rw [show i = Int32.ofInt i.toInt by rw [Int32.ofInt_toInt]]
    rw [show (1 : Int32) = Int32.ofInt 1 by decide, ii_sub, ii_sub, ii_toInt (by omega) (by omega)]
  generalize hpw : Int32.ofInt (l.length : Nat) - 1 - i = pw at hp
  refine RW.weak (lv0 := [.ref g, .int i, .int pw]) ⟨Or.inr rfl, Or.inr rfl, Or.inr rfl, trivial⟩ ?_
  refine RW.sk [] rfl ?_
  refine RW.ps 1 rfl ?_
  refine RW.ifc (fun k2 => ?_) (fun k2 => ?_)
  · rw [xi_lt, i0] at k2
    refine RW.weak (lv0 := []) trivial ?_
    refine RW.sk [] rfl ?_
    exact h35 (by omega)
  rw [xi_lt, i0] at k2
  refine RW.ps 2 rfl ?_
  refine RW.gf h1 h2 ?_
  refine RW.al h3 ?_
  refine RW.icm (fun k3 => ?_) (fun k3 => ?_)
  · rw [xi_ge, show (Int32.ofNat 8193).toInt = 8193 from rfl] at k3
    refine RW.weak (lv0 := []) trivial ?_
    refine RW.sk [] rfl ?_
    exact h35 (by omega)
  refine RW.ps 1 rfl ?_
  refine RW.gf h1 h2 ?_
  refine RW.ps 1 rfl ?_
  refine RW.ia h3 (k := l.length - 1 - i.toInt.toNat) (by omega) (by omega) ?_
  refine RW.go ?_
  refine RW.weak (lv0 := []) trivial ?_
  refine RW.sk [.int (xi o (g + 1) (l.length - 1 - i.toInt.toNat))] rfl ?_
  refine h36 _ ?_
  rw [h6 _ (by omega)]
  unfold chAt
  rw [if_pos (by omega)]
