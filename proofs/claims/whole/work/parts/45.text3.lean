/-! TEXT: digit. -/
theorem c_digit {o : xO} {t k : Nat} {iw : Int32} {l : List Int32} (h : Tx o t l) (hi : iw.toInt = (k : Int)) (hk : k < l.length) : Cp y_Text_digit [.ref t, .int iw] o (.int (Int32.ofInt (dgt (l.getD k 0) : Nat))) := by
  obtain ⟨h1, h2, h3, h4, h5, h6⟩ := h
  refine RW.ps 1 rfl ?_
  refine RW.ifc (fun k => ?_) (fun _ => ?_)
  · rw [xi_lt, hi, i0] at k; omega
  refine RW.ps 2 rfl ?_
  refine RW.gf h1 h2 ?_
  refine RW.al h3 ?_
  refine RW.icm (fun k => ?_) (fun _ => ?_)
  · rw [xi_ge, hi, show (Int32.ofNat 3000).toInt = 3000 from rfl] at k; omega
  refine RW.ps 1 rfl ?_
  refine RW.gf h1 h2 ?_
  refine RW.ps 1 rfl ?_
  refine RW.ia h3 hi (by omega) ?_
  refine RW.top (w' := .int (l.getD k 0)) (by rw [h6 k hk]) ?_
  generalize l.getD k 0 = c
  refine RW.go ?_
  have hc1 := c.le_toInt
  have hc2 := c.toInt_lt
  have hce : c = Int32.ofInt c.toInt := by rw [Int32.ofInt_toInt]
  have s2 : ∀ z b : Int, ∀ n : Nat, (n : Int) = c.toInt - z + b → c - Int32.ofInt z + Int32.ofInt b = Int32.ofInt (n : Nat) := fun z b n hn => by rw [hn, ← ii_add, ← ii_sub, Int32.ofInt_toInt]
  have s1 : ∀ z : Int, ∀ n : Nat, (n : Int) = c.toInt - z → c - Int32.ofInt z = Int32.ofInt (n : Nat) := fun z n hn => by rw [hn, ← ii_sub, Int32.ofInt_toInt]
  have h85 : ∀ n : Nat, n = dgt c → RW (fun r' o' => r' = .inl (some (.int (Int32.ofInt (dgt c : Nat)))) ∧ o' = o) y_Text_digit (xbk y_Text_digit 85) [] [.int (Int32.ofInt (n : Nat))] o := by
    intro n hn
    subst hn
    exact RW.re rfl rfl ⟨rfl, rfl⟩
  have h83 : ¬ (48 ≤ c.toInt ∧ c.toInt ≤ 57) → ¬ (65 ≤ c.toInt ∧ c.toInt ≤ 90) → ¬ (97 ≤ c.toInt ∧ c.toInt ≤ 122) → RW (fun r' o' => r' = .inl (some (.int (Int32.ofInt (dgt c : Nat)))) ∧ o' = o) y_Text_digit (xbk y_Text_digit 83) [] [] o := by
    intro k1 k2 k3
    refine RW.ps 1 rfl ?_
    exact h85 36 (by unfold dgt; rw [if_neg k1, if_neg k2, if_neg k3])
  have h61 : ¬ (48 ≤ c.toInt ∧ c.toInt ≤ 57) → ¬ (65 ≤ c.toInt ∧ c.toInt ≤ 90) → RW (fun r' o' => r' = .inl (some (.int (Int32.ofInt (dgt c : Nat)))) ∧ o' = o) y_Text_digit (xbk y_Text_digit 61) [xj, xj, .int c] [] o := by
    intro k1 k2
    refine RW.ps 2 rfl ?_
    refine RW.icm (fun k => ?_) (fun k => ?_)
    · rw [xi_lt, show (97 : Int32).toInt = 97 from rfl] at k
      refine RW.weak (lv0 := []) trivial ?_
      refine RW.sk [] rfl ?_
      exact h83 k1 k2 (by omega)
    rw [xi_lt, show (97 : Int32).toInt = 97 from rfl] at k
    refine RW.ps 2 rfl ?_
    refine RW.icm (fun k3 => ?_) (fun k3 => ?_)
    · rw [xi_gt, show (122 : Int32).toInt = 122 from rfl] at k3
      refine RW.weak (lv0 := []) trivial ?_
      refine RW.sk [] rfl ?_
      exact h83 k1 k2 (by omega)
    rw [xi_gt, show (122 : Int32).toInt = 122 from rfl] at k3
    refine RW.ps 5 rfl ?_
    refine RW.top (congrArg Value.int (s2 97 10 (c.toInt - 87).toNat (by omega))) ?_
    refine RW.go ?_
    refine RW.weak (lv0 := []) trivial ?_
    exact h85 _ (by unfold dgt; rw [if_neg k1, if_neg k2, if_pos (by omega)])
  have h41 : ¬ (48 ≤ c.toInt ∧ c.toInt ≤ 57) → RW (fun r' o' => r' = .inl (some (.int (Int32.ofInt (dgt c : Nat)))) ∧ o' = o) y_Text_digit (xbk y_Text_digit 41) [xj, xj, .int c] [] o := by
    intro k1
    refine RW.ps 2 rfl ?_
    refine RW.icm (fun k => ?_) (fun k => ?_)
    · rw [xi_lt, show (65 : Int32).toInt = 65 from rfl] at k
      exact h61 k1 (by omega)
    rw [xi_lt, show (65 : Int32).toInt = 65 from rfl] at k
    refine RW.ps 2 rfl ?_
    refine RW.icm (fun k3 => ?_) (fun k3 => ?_)
    · rw [xi_gt, show (90 : Int32).toInt = 90 from rfl] at k3
      exact h61 k1 (by omega)
    rw [xi_gt, show (90 : Int32).toInt = 90 from rfl] at k3
    refine RW.ps 5 rfl ?_
    refine RW.top (congrArg Value.int (s2 65 10 (c.toInt - 55).toNat (by omega))) ?_
    refine RW.weak (lv0 := []) trivial ?_
    refine RW.re rfl rfl ⟨?_, rfl⟩
    unfold dgt; rw [if_neg k1, if_pos (by omega)]
  refine RW.weak (lv0 := [xj, xj, xj]) ⟨Or.inl rfl, Or.inl rfl, Or.inl rfl, trivial⟩ ?_
  refine RW.sk [.int c] rfl ?_
  refine RW.ps 3 rfl ?_
  refine RW.icm (fun k => ?_) (fun k => ?_)
  · rw [xi_lt, show (48 : Int32).toInt = 48 from rfl] at k
    exact h41 (by omega)
  rw [xi_lt, show (48 : Int32).toInt = 48 from rfl] at k
  refine RW.ps 2 rfl ?_
  refine RW.icm (fun k3 => ?_) (fun k3 => ?_)
  · rw [xi_gt, show (57 : Int32).toInt = 57 from rfl] at k3
    exact h41 (by omega)
  rw [xi_gt, show (57 : Int32).toInt = 57 from rfl] at k3
  refine RW.ps 3 rfl ?_
  refine RW.top (congrArg Value.int (s1 48 (c.toInt - 48).toNat (by omega))) ?_
  refine RW.weak (lv0 := []) trivial ?_
  refine RW.re rfl rfl ⟨?_, rfl⟩
  unfold dgt; rw [if_pos (by omega)]
