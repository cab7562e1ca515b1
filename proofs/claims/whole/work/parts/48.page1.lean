/-! PAGE: the page at g, what is written at g+1, its row at g+2. -/
def Px (o : xO) (g : Nat) (l : List Int32) : Prop := xk o g = (3, 8) ∧ xf o g 0 = .ref (g + 1) ∧ xf o g 1 = .ref (g + 2) ∧ xk o (g + 1) = (1, 8193) ∧ l.length ≤ 8193 ∧ xf o g 2 = .int (Int32.ofInt (l.length : Nat)) ∧ ∀ i, i < l.length → xi o (g + 1) i = l.getD i 0
theorem Px.fr {S : List (Nat × Nat)} {o o' : xO} {g : Nat} {l : List Int32} (h : Px o g l) (hf : Fr S o o') (h0 : Out S g) (h1 : Out S (g + 1)) : Px o' g l :=
  ⟨by rw [hf.k]; exact h.1, by rw [hf.f h0]; exact h.2.1, by rw [hf.f h0]; exact h.2.2.1, by rw [hf.k]; exact h.2.2.2.1, h.2.2.2.2.1, by rw [hf.f h0]; exact h.2.2.2.2.2.1, fun i hi => by rw [hf.i h1]; exact h.2.2.2.2.2.2 i hi⟩
theorem c_pageAdd {o : xO} {g : Nat} {l : List Int32} {c : Int32} (h : Px o g l) (hl : l.length < 8193) : Cv y_Page_add [.ref g, .int c] o (fun o' => Fr [(g, 2)] o o' ∧ Px o' g (l ++ [c])) := by
  obtain ⟨h1, h2, h2', h3, h4, h5, h6⟩ := h
  refine RW.ps 1 rfl ?_
  refine RW.gf h1 h5 ?_
  refine RW.ifc (fun k => ?_) (fun _ => ?_)
  · rw [xi_lt, iu (by omega), i0] at k; omega
  refine RW.ps 1 rfl ?_
  refine RW.gf h1 h5 ?_
  refine RW.ps 1 rfl ?_
  refine RW.gf h1 h2 ?_
  refine RW.al h3 ?_
  refine RW.icm (fun k => ?_) (fun k => ?_)
  · rw [xi_ge, iu (by omega), show (Int32.ofNat 8193).toInt = 8193 from rfl] at k; omega
  refine RW.ps 1 rfl ?_
  refine RW.gf h1 h2 ?_
  refine RW.ps 1 rfl ?_
  refine RW.gf h1 h5 ?_
  refine RW.ps 1 rfl ?_
  refine RW.ist h3 (iu (by omega)) hl ?_
  refine RW.ps 2 rfl ?_
  refine RW.gf h1 h5 ?_
  refine RW.ps 2 rfl ?_
  refine RW.pf h1 rfl rfl ?_
  have e : Int32.ofInt (l.length : Nat) + 1 = Int32.ofInt ((l ++ [c]).length : Nat) := by
    rw [show (1 : Int32) = Int32.ofInt 1 by decide, ii_add, List.length_append]; rfl
  refine RW.re rfl rfl ⟨rfl, ?_, ?_⟩
  · exact (Fr.up Fr.pi (fun b hb => ⟨by have := hb.1; dsimp only at this ⊢; omega, trivial⟩)).trans (Fr.up Fr.pf (fun b hb => ⟨by have := hb.1; dsimp only at this ⊢; omega, trivial⟩))
  · refine ⟨h1, ?_, ?_, h3, by rw [List.length_append]; exact hl, ?_, ?_⟩
    · exact (xpf_ne (fun _ => by decide)).trans h2
    · exact (xpf_ne (fun _ => by decide)).trans h2'
    · rw [← e]; exact xpf_same
    · intro i hi
      rw [List.length_append] at hi
      have hi : i < l.length + 1 := hi
      show xi (xpi o (g + 1) l.length c) (g + 1) i = _
      by_cases hil : i = l.length
      · subst hil
        rw [xpi_same]; simp
      · rw [xpi_ne (fun _ => hil), h6 i (by omega)]
        simp [List.getD, List.getElem?_append_left (show i < l.length by omega)]
