/-! TEXT: the text at t, its characters at t+1. -/
def Tx (o : xO) (t : Nat) (l : List Int32) : Prop := xk o t = (3, 7) ∧ xf o t 0 = .ref (t + 1) ∧ xk o (t + 1) = (1, 3000) ∧ l.length ≤ 3000 ∧ xf o t 1 = .int (Int32.ofInt (l.length : Nat)) ∧ ∀ i, i < l.length → xi o (t + 1) i = l.getD i 0
theorem Tx.fr {S : List (Nat × Nat)} {o o' : xO} {t : Nat} {l : List Int32} (h : Tx o t l) (hf : Fr S o o') (h0 : Out S t) (h1 : Out S (t + 1)) : Tx o' t l :=
  ⟨by rw [hf.k]; exact h.1, by rw [hf.f h0]; exact h.2.1, by rw [hf.k]; exact h.2.2.1, h.2.2.2.1, by rw [hf.f h0]; exact h.2.2.2.2.1, fun i hi => by rw [hf.i h1]; exact h.2.2.2.2.2 i hi⟩
theorem xpi_same {o : xO} {a j : Nat} {v : Int32} : xi (xpi o a j v) a j = v := if_pos ⟨rfl, rfl⟩
theorem xpi_ne {o : xO} {a j b k : Nat} {v : Int32} (h : b = a → k ≠ j) : xi (xpi o a j v) b k = xi o b k := if_neg (fun z => h z.1 z.2)
theorem c_textAdd {o : xO} {t : Nat} {l : List Int32} {c : Int32} (h : Tx o t l) : Cq y_Text_add [.ref t, .int c] o (fun v o' => v = .int (sg (decide (l.length < 3000))) ∧ Fr [(t, 2)] o o' ∧ Tx o' t (if l.length < 3000 then l ++ [c] else l)) := by
  obtain ⟨h1, h2, h3, h4, h5, h6⟩ := h
  refine RW.ps 1 rfl ?_
  refine RW.gf h1 h5 ?_
  refine RW.ifc (fun k => ?_) (fun _ => ?_)
  · rw [xi_lt, iu (by omega), i0] at k; omega
  refine RW.ps 1 rfl ?_
  refine RW.gf h1 h5 ?_
  refine RW.ps 1 rfl ?_
  refine RW.gf h1 h2 ?_
  refine RW.al h3 ?_
  refine RW.icm (fun k => ?_) (fun k => ?_)
  · rw [xi_lt, iu (by omega), show (Int32.ofNat 3000).toInt = 3000 from rfl] at k
    have hl : l.length < 3000 := by omega
    refine RW.ps 1 rfl ?_
    refine RW.gf h1 h2 ?_
    refine RW.ps 1 rfl ?_
    refine RW.gf h1 h5 ?_
    refine RW.ps 1 rfl ?_
    refine RW.ist h3 (iu (by omega)) hl ?_
    refine RW.ps 2 rfl ?_
    refine RW.gf h1 h5 ?_
    refine RW.ps 2 rfl ?_
    refine RW.pf h1 rfl rfl ?_
    refine RW.ps 1 rfl ?_
    have e : Int32.ofInt (l.length : Nat) + 1 = Int32.ofInt ((l ++ [c]).length : Nat) := by
      rw [show (1 : Int32) = Int32.ofInt 1 by decide, ii_add, List.length_append]; rfl
    refine RW.re rfl rfl ⟨_, rfl, by rw [decide_eq_true hl]; rfl, ?_, ?_⟩
    · exact (Fr.up Fr.pi (fun b hb => ⟨by have := hb.1; dsimp only at this ⊢; omega, trivial⟩)).trans (Fr.up Fr.pf (fun b hb => ⟨by have := hb.1; dsimp only at this ⊢; omega, trivial⟩))
    · rw [if_pos hl]
      refine ⟨h1, ?_, h3, by rw [List.length_append]; exact hl, ?_, ?_⟩
      · exact (xpf_ne (fun _ => by decide)).trans h2
      · rw [← e]; exact xpf_same
      · intro i hi
        rw [List.length_append] at hi
        have hi : i < l.length + 1 := hi
        show xi (xpi o (t + 1) l.length c) (t + 1) i = _
        by_cases hil : i = l.length
        · subst hil
          rw [xpi_same]; simp
        · rw [xpi_ne (fun _ => hil), h6 i (by omega)]
          simp [List.getD, List.getElem?_append_left (show i < l.length by omega)]
  · rw [xi_lt, iu (by omega), show (Int32.ofNat 3000).toInt = 3000 from rfl] at k
    have hl : ¬ l.length < 3000 := by omega
    refine RW.ps 1 rfl ?_
    refine RW.re rfl rfl ⟨_, rfl, by rw [decide_eq_false hl]; rfl, Fr.refl _ _, ?_⟩
    rw [if_neg hl]
    exact ⟨h1, h2, h3, h4, h5, h6⟩
theorem c_textClear {o : xO} {t : Nat} {l : List Int32} (h : Tx o t l) : Cv y_Text_clear [.ref t] o (fun o' => Fr [(t, 2)] o o' ∧ Tx o' t []) := by
  obtain ⟨h1, h2, h3, h4, h5, h6⟩ := h
  refine RW.ps 2 rfl ?_
  refine RW.pf h1 rfl rfl ?_
  refine RW.re rfl rfl ⟨rfl, Fr.up Fr.pf (fun b hb => ⟨by have := hb.1; dsimp only at this ⊢; omega, trivial⟩), h1, (xpf_ne (fun _ => by decide)).trans h2, h3, by decide, xpf_same, fun i hi => by cases hi⟩
