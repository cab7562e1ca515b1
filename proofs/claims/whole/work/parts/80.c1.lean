/-! THE REFERENCE'S CALLS: how they end; isRegister, set, move, addSigned, keepIf, reckon. -/
def MV (o : xO) (Y : Nat) (sp : Vo) (t p : List Int32) (r : xR) (o' : xO) : Prop := Fr [(Y, 14)] o o' ∧ MI o' Y sp.2 t p sp.1 ∧ r = .inl none
def MA (o : xO) (Y : Nat) (z' : Nat → Int) (t' p' : List Int32) (k : Nat) (v : Value) (r : xR) (o' : xO) : Prop := Fr [(Y, 14)] o o' ∧ MI o' Y z' t' p' k ∧ r = .inl (some v)
section MSA
variable {o0 o o' : xO} {Y c : Nat} {z : Nat → Int} {t p : List Int32}
theorem MS.mv {sp : Vo} (h : MS o0 o Y z t p c) (he : sp = (c, z)) : MV o0 Y sp t p (.inl none) o := by subst he; exact ⟨h.1, h.2, rfl⟩
theorem MS.ma {k : Nat} {v : Value} (h : MS o0 o Y z t p c) (he : k = c) : MA o0 Y z t p k v (.inl (some v)) o := by subst he; exact ⟨h.1, h.2, rfl⟩
theorem MS.y (h : MS o0 o Y z t p c) : xk o Y = (3, 9) := h.2.1.1
theorem MS.cd (h : MS o0 o Y z t p c) : xf o Y 0 = .int (Int32.ofInt (c : Nat)) := h.2.2.2.2.2
theorem MS.f1 (h : MS o0 o Y z t p c) : xf o Y 1 = .ref (Y + 1) := h.2.1.2.1.1
theorem MS.f2 (h : MS o0 o Y z t p c) : xf o Y 2 = .ref (Y + 2) := h.2.1.2.1.2.1
theorem MS.f3 (h : MS o0 o Y z t p c) : xf o Y 3 = .ref (Y + 3) := h.2.1.2.1.2.2.1
theorem MS.f4 (h : MS o0 o Y z t p c) : xf o Y 4 = .ref (Y + 4) := h.2.1.2.1.2.2.2.1
theorem MS.f5 (h : MS o0 o Y z t p c) : xf o Y 5 = .ref (Y + 5) := h.2.1.2.1.2.2.2.2.1
theorem MS.f6 (h : MS o0 o Y z t p c) : xf o Y 6 = .ref (Y + 6) := h.2.1.2.1.2.2.2.2.2.1
theorem MS.f7 (h : MS o0 o Y z t p c) : xf o Y 7 = .ref (Y + 7) := h.2.1.2.1.2.2.2.2.2.2.1
theorem MS.f8 (h : MS o0 o Y z t p c) : xf o Y 8 = .ref (Y + 8) := h.2.1.2.1.2.2.2.2.2.2.2.1
theorem MS.f9 (h : MS o0 o Y z t p c) : xf o Y 9 = .ref (Y + 9) := h.2.1.2.1.2.2.2.2.2.2.2.2.1
theorem MS.f10 (h : MS o0 o Y z t p c) : xf o Y 10 = .ref (Y + 10) := h.2.1.2.1.2.2.2.2.2.2.2.2.2.1
theorem MS.f11 (h : MS o0 o Y z t p c) : xf o Y 11 = .ref (Y + 11) := h.2.1.2.1.2.2.2.2.2.2.2.2.2.2.1
theorem MS.f13 (h : MS o0 o Y z t p c) : xf o Y 13 = .ref (Y + 12) := h.2.1.2.1.2.2.2.2.2.2.2.2.2.2.2.1
theorem MS.f15 (h : MS o0 o Y z t p c) : xf o Y 15 = .ref (Y + 13) := h.2.1.2.1.2.2.2.2.2.2.2.2.2.2.2.2
theorem MS.k2 (h : MS o0 o Y z t p c) : xk o (Y + 2) = (1, 16) := h.2.1.2.2.2.1
theorem MS.k3 (h : MS o0 o Y z t p c) : xk o (Y + 3) = (1, 1200) := h.2.1.2.2.2.2.1
theorem MS.k4 (h : MS o0 o Y z t p c) : xk o (Y + 4) = (1, 1200) := h.2.1.2.2.2.2.2.1
theorem MS.k5 (h : MS o0 o Y z t p c) : xk o (Y + 5) = (1, 1200) := h.2.1.2.2.2.2.2.2.1
theorem MS.k6 (h : MS o0 o Y z t p c) : xk o (Y + 6) = (1, 1200) := h.2.1.2.2.2.2.2.2.2.1
theorem MS.k7 (h : MS o0 o Y z t p c) : xk o (Y + 7) = (1, 1200) := h.2.1.2.2.2.2.2.2.2.2.1
theorem MS.k12 (h : MS o0 o Y z t p c) : xk o (Y + 12) = (1, 3000) := h.2.1.2.2.2.2.2.2.2.2.2.2.2.2.2.1
theorem MS.k13 (h : MS o0 o Y z t p c) : xk o (Y + 13) = (1, 8200) := h.2.1.2.2.2.2.2.2.2.2.2.2.2.2.2.2
theorem MS.top (h : MS o0 o Y z t p c) {r : Int32} (hr : okr r) : (z (rx r)).natAbs < TOP := (h.2.2.1 (rx r) hr.lt).2.1
theorem MS.n (h : MS o0 o Y z t p c) {r : Int32} (hr : okr r) : n16 (z (rx r)).natAbs ≤ 512 := top_n16.mpr (h.top hr)
theorem MS.sv (h : MS o0 o Y z t p c) {r : Int32} (hr : okr r) : xi o (Y + 2) (rx r) = Int32.ofInt (z (rx r)).sign := (h.2.2.1 (rx r) hr.lt).2.2
theorem okr.ix {r : Int32} (hr : okr r) : r.toInt = (rx r : Int) := by unfold rx; omega
theorem c_isRegister (r : Int32) : Cp y_M_isRegister [.int r] o (.int (if okr r then 1 else 0)) := by
  have h14 : ¬ okr r → ∀ lv, RW (fun (q : xR) o' => q = .inl (some (.int (if okr r then 1 else 0))) ∧ o' = o) y_M_isRegister (xbk y_M_isRegister 14) lv [] o := by
    intro hr lv
    rw [if_neg hr]
    refine RW.ps 1 rfl ?_
    exact RW.re rfl rfl ⟨rfl, rfl⟩
  refine RW.ps 1 rfl ?_
  refine RW.ifc (fun k => ?_) (fun k => ?_)
  · rw [xi_lt, i0] at k
    exact h14 (fun z => by have := z.1; omega) _
  rw [xi_lt, i0] at k
  refine RW.ps 2 rfl ?_
  refine RW.icm (fun k2 => ?_) (fun k2 => ?_)
  · rw [xi_ge, show (16 : Int32).toInt = 16 from rfl] at k2
    exact h14 (fun z => by have := z.2; omega) _
  rw [xi_ge, show (16 : Int32).toInt = 16 from rfl] at k2
  rw [if_pos ⟨by omega, by omega⟩]
  refine RW.ps 1 rfl ?_
  refine RW.go ?_
  exact RW.re rfl rfl ⟨rfl, rfl⟩
theorem c_mload (h : MS o0 o Y z t p c) {r : Int32} (hr : okr r) (j : Nat) (hj : 3 ≤ j ∧ j ≤ 7) : Cv y_M_load [.ref Y, .int r, .ref (Y + j)] o (fun o' => MS o0 o' Y z t p c ∧ Mn o' (Y + j) 1200 (z (rx r)).natAbs ∧ Fr [(Y + j, 1)] o o') := by
  have hk : xk o (Y + j) = (1, 1200) := by
    rcases (show j = 3 ∨ j = 4 ∨ j = 5 ∨ j = 6 ∨ j = 7 by omega) with e | e | e | e | e <;> subst e
    · exact h.k3
    · exact h.k4
    · exact h.k5
    · exact h.k6
    · exact h.k7
  obtain ⟨N, r', o', e1, e2, f, m⟩ := c_load h.2.1 hr.ix hr.lt (h.2.2.1 (rx r) hr.lt).1 (h.n hr) hk (by decide) (by omega) (by omega)
  exact ⟨N, r', o', e1, e2, h.scr f (by omega) (by omega), m, f⟩
theorem sign_lt {x : Int} : xcd .ge (Int32.ofInt x.sign) 0 ↔ 0 ≤ x := by
  rw [xi_ge, i0]
  rcases Int.lt_trichotomy x 0 with h | h | h
  · rw [Int.sign_eq_neg_one_of_neg h]; exact ⟨fun k => absurd k (by decide), fun k => by omega⟩
  · rw [h]; exact ⟨fun _ => Int.le_refl _, fun _ => by decide⟩
  · rw [Int.sign_eq_one_of_pos h]; exact ⟨fun _ => by omega, fun _ => by decide⟩
theorem sign_rng (x : Int) : -1 ≤ x.sign ∧ x.sign ≤ 1 := by
  rcases Int.lt_trichotomy x 0 with h | h | h
  · rw [Int.sign_eq_neg_one_of_neg h]; decide
  · rw [h]; decide
  · rw [Int.sign_eq_one_of_pos h]; decide
theorem sign_i (x : Int) : (Int32.ofInt x.sign).toInt = x.sign := by have := sign_rng x; exact ii_toInt (by omega) (by omega)
theorem sign_0 (x : Int) : x.sign = 0 ↔ x = 0 := Int.sign_eq_zero_iff_zero
end MSA
