/-! TEXT: firstFlaw. -/
def st0 (l : List Int32) : Nat := if hy l then 1 else 0
def fl (l : List Int32) (b : Nat) : Nat → Nat → Int
  | 0, _ => if st0 l = l.length then (l.length : Int) else -1
  | n + 1, i => if b ≤ dgt (l.getD i 0) then (i : Int) else fl l b n (i + 1)
def flaw (l : List Int32) (b : Nat) : Int := fl l b (l.length - st0 l) (st0 l)
theorem st0_le (l : List Int32) : st0 l ≤ l.length := by
  unfold st0 hy
  by_cases h : 0 < l.length
  · split <;> omega
  · rw [decide_eq_false h]; simp
theorem c_firstFlaw {o : xO} {t b : Nat} {bw : Int32} {l : List Int32} (h : Tx o t l) (hb : bw.toInt = (b : Int)) : Cp y_Text_firstFlaw [.ref t, .int bw] o (.int (Int32.ofInt (flaw l b))) := by
  have hT := h
  obtain ⟨h1, h2, h3, h4, h5, h6⟩ := h
  have hs1 : st0 l ≤ 1 := by unfold st0; split <;> omega
  have hs2 := st0_le l
  have loop : ∀ n i (iw : Int32), i + n = l.length → iw.toInt = (i : Int) → fl l b n i = flaw l b → RW (fun r' o' => r' = .inl (some (.int (Int32.ofInt (flaw l b)))) ∧ o' = o) y_Text_firstFlaw (xbk y_Text_firstFlaw 15) [.ref t, .int bw, .int (Int32.ofInt (st0 l : Nat)), .int iw] [] o := by
    intro n
    induction n with
    | zero =>
      intro i iw hk hi hf
      refine RW.ps 2 rfl ?_
      refine RW.gf h1 h5 ?_
      refine RW.icm (fun _ => ?_) (fun k => ?_)
      · refine RW.ps 2 rfl ?_
        refine RW.gf h1 h5 ?_
        refine RW.icm (fun k => ?_) (fun k => ?_)
        · rw [xi_ne, iu (by omega), iu (by omega)] at k
          refine RW.ps 1 rfl ?_
          refine RW.re rfl rfl ⟨?_, rfl⟩
          rw [← hf, fl, if_neg (by omega)]; rfl
        · rw [xi_ne, iu (by omega), iu (by omega)] at k
          refine RW.ps 1 rfl ?_
          refine RW.gf h1 h5 ?_
          refine RW.go ?_
          refine RW.re rfl rfl ⟨?_, rfl⟩
          rw [← hf, fl, if_pos (by omega)]
      · rw [xi_ge, hi, iu (by omega)] at k; omega
    | succ n ih =>
      intro i iw hk hi hf
      have hd := dgt_le (l.getD i 0)
      refine RW.ps 2 rfl ?_
      refine RW.gf h1 h5 ?_
      refine RW.icm (fun k => ?_) (fun _ => ?_)
      · rw [xi_ge, hi, iu (by omega)] at k; omega
      refine RW.ps 2 rfl ?_
      refine RW.cp rfl rfl (xrc_v rfl rfl h1) rfl rfl (c_digit hT hi (by omega)) ?_
      refine RW.ps 1 rfl ?_
      refine RW.icm (fun k => ?_) (fun k => ?_)
      · rw [xi_lt, iu (by omega), hb] at k
        rw [fl, if_neg (by omega)] at hf
        refine RW.ps 1 rfl ?_
        refine RW.go ?_
        exact ih (i + 1) (iw + 1) (by omega) (i_succ hi (by omega)) hf
      · rw [xi_lt, iu (by omega), hb] at k
        rw [fl, if_pos (by omega)] at hf
        refine RW.ps 1 rfl ?_
        refine RW.re rfl rfl ⟨?_, rfl⟩
        rw [← hf, i_of hi]
  have h12 : ∀ n : Nat, n = st0 l → RW (fun r' o' => r' = .inl (some (.int (Int32.ofInt (flaw l b)))) ∧ o' = o) y_Text_firstFlaw (xbk y_Text_firstFlaw 12) [.ref t, .int bw, xj, xj] [.int (Int32.ofInt (n : Nat))] o := by
    intro n hn
    subst hn
    refine RW.ps 3 rfl ?_
    exact loop (l.length - st0 l) (st0 l) _ (by omega) (iu (by omega)) rfl
  refine RW.ps 1 rfl ?_
  refine RW.cp rfl rfl (xrc_v rfl rfl h1) rfl rfl (c_hasHyphen hT) ?_
  cases hh : hy l with
  | true =>
    refine RW.ifc (fun k => absurd (xi_eq.mp k) (by decide)) (fun _ => ?_)
    refine RW.ps 1 rfl ?_
    refine RW.go ?_
    exact h12 1 (by unfold st0; rw [if_pos hh])
  | false =>
    refine RW.ifc (fun _ => ?_) (fun k => absurd (xi_eq.mpr rfl) k)
    refine RW.ps 1 rfl ?_
    exact h12 0 (by unfold st0; rw [hh]; rfl)
