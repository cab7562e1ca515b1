/-! ROWS THAT HOLD A NUMBER: trim, clear, become, add, take, scale. -/
def lm (x : Nat) : Nat → Int32 := fun k => Int32.ofInt (dg x k)
def BIG : Nat := 2147483648 ^ 539
def Rn (o : xO) (r x : Nat) : Prop := IsRow o r ∧ x < BIG ∧ xi o (r + 1) = lm x ∧ xf o r 1 = .int (Int32.ofInt (nl x))
def sNum (o : xO) (r x : Nat) : xO := sRow o r (lm x) (nl x)
theorem big_nl {x : Nat} (h : x < BIG) : nl x ≤ 539 := nl_le.mpr h
theorem Rn.set {o : xO} {r x : Nat} (h : IsRow o r) (hx : x < BIG) : Rn (sNum o r x) r x := ⟨IsRow.s h, hx, sRow_i, sRow_f⟩
theorem Rn.ne {o : xO} {r q x : Nat} {f : Nat → Int32} {u : Nat} (h : Rn o q x) (hq : q ≠ r) : Rn (sRow o r f u) q x := ⟨IsRow.s h.1, h.2.1, by rw [sRow_i_ne (by omega)]; exact h.2.2.1, by rw [sRow_f_ne hq]; exact h.2.2.2⟩
theorem Rn.eta {o : xO} {r x : Nat} (h : Rn o r x) : sNum o r x = o := sRow_eta h.2.2.1 h.2.2.2
theorem dg_big {x k : Nat} (hx : x < BIG) (hk : 539 ≤ k) : dg x k = 0 := dg_zero' (Nat.le_trans (big_nl hx) hk)
theorem c_dg {o : xO} {q k x : Nat} {i : Int32} (h : IsRow o q) (hi : i.toInt = (k : Int)) (hx : x < BIG) (hd : xi o (q + 1) k = Int32.ofInt (dg x k)) : Cp y_Row_at [.ref q, .int i] o (.long (Int64.ofInt (dg x k))) :=
  c_at h hi (fun _ => hd) (fun hk => dg_big hx (by omega)) (dg_lt x k)
theorem i_succ {i : Int32} {k : Nat} (hi : i.toInt = (k : Int)) (hk : k < 2147483647) : (i + 1).toInt = ((k + 1 : Nat) : Int) := by
  rw [Int32.toInt_add, hi]
  show ((k : Int) + 1).bmod (2 ^ 32) = _
  rw [Int.bmod_eq_of_le (by omega) (by omega)]
  omega
theorem i_pred {i : Int32} {k : Nat} (hi : i.toInt = ((k + 1 : Nat) : Int)) (hk : k < 2147483647) : (i - 1).toInt = (k : Int) := by
  rw [Int32.toInt_sub, hi]
  show (((k + 1 : Nat) : Int) - 1).bmod (2 ^ 32) = _
  rw [Int.bmod_eq_of_le (by omega) (by omega)]
  omega
theorem i_of {i : Int32} {z : Int} (hi : i.toInt = z) : i = Int32.ofInt z := by rw [← hi, Int32.ofInt_toInt]
theorem iu {u : Nat} (h : u < 2147483648) : (Int32.ofInt (u : Int)).toInt = (u : Int) := ii_toInt (by omega) (by omega)
theorem cmp_toInt {a b : Int} (h1 : -9223372036854775808 ≤ a) (h2 : a < 9223372036854775808) (h3 : -9223372036854775808 ≤ b) (h4 : b < 9223372036854775808) : (lg_cmp (Int64.ofInt a) (Int64.ofInt b)).toInt = if b < a then 1 else if a = b then 0 else -1 := by
  rw [li_cmp h1 h2 h3 h4]
  split
  · rfl
  · split <;> rfl
theorem l0 : (0 : Int64) = Int64.ofInt 0 := by decide
theorem c_trim {o : xO} {r x : Nat} (h : IsRow o r) (hx : x < BIG) : ∀ n u, u = nl x + n → u ≤ 540 → Cv y_Row_trim [.ref r] (sRow o r (lm x) u) (fun o' => o' = sNum o r x) := by
  intro n
  induction n with
  | zero =>
    intro u hu hu2
    refine RW.ps 1 rfl ?_
    refine RW.gf (IsRow.s h).1 sRow_f ?_
    refine RW.ifc (fun h1 => ?_) (fun h1 => ?_)
    · exact RW.re rfl rfl ⟨rfl, by rw [hu]; rfl⟩
    · rw [xi_le, iu (by omega), i0] at h1
      obtain ⟨n, hn⟩ : ∃ n, u = n + 1 := ⟨u - 1, by omega⟩
      refine RW.ps 2 rfl ?_
      refine RW.gf (IsRow.s h).1 sRow_f ?_
      refine RW.ps 2 rfl ?_
      have hi : (Int32.ofInt (u : Int) - 1).toInt = ((n : Nat) : Int) := i_pred (by rw [iu (by omega), hn]) (by omega)
      refine RW.cp rfl rfl (xrc_v rfl rfl (IsRow.s h).1) rfl rfl (c_dg (x := x) (IsRow.s h) hi hx (by rw [sRow_i]; rfl)) ?_
      refine RW.ps 2 rfl ?_
      refine RW.ifc (fun h2 => ?_) (fun h2 => ?_)
      · exact RW.re rfl rfl ⟨rfl, by rw [hu]; rfl⟩
      · exfalso
        have hd := dg_lt x n
        rw [xi_ne, l0, cmp_toInt (by omega) (by omega) (by omega) (by omega), i0] at h2
        have := dg_top (x := x) (n := n) (by omega)
        apply h2
        rw [if_pos (by omega)]
        decide
  | succ n ih =>
    intro u hu hu2
    obtain ⟨m, hm⟩ : ∃ m, u = m + 1 := ⟨nl x + n, by omega⟩
    refine RW.ps 1 rfl ?_
    refine RW.gf (IsRow.s h).1 sRow_f ?_
    refine RW.ifc (fun h1 => ?_) (fun h1 => ?_)
    · rw [xi_le, iu (by omega), i0] at h1; omega
    · refine RW.ps 2 rfl ?_
      refine RW.gf (IsRow.s h).1 sRow_f ?_
      refine RW.ps 2 rfl ?_
      have hi : (Int32.ofInt (u : Int) - 1).toInt = ((m : Nat) : Int) := i_pred (by rw [iu (by omega), hm]) (by omega)
      refine RW.cp rfl rfl (xrc_v rfl rfl (IsRow.s h).1) rfl rfl (c_dg (x := x) (IsRow.s h) hi hx (by rw [sRow_i]; rfl)) ?_
      refine RW.ps 2 rfl ?_
      have hz : dg x m = 0 := dg_zero' (by omega)
      refine RW.ifc (fun h2 => ?_) (fun _ => ?_)
      · exfalso
        rw [hz, xi_ne, l0, cmp_toInt (by omega) (by omega) (by omega) (by omega), i0] at h2
        exact h2 rfl
      · refine RW.ps 2 rfl ?_
        refine RW.gf (IsRow.s h).1 sRow_f ?_
        refine RW.ps 2 rfl ?_
        refine RW.pf (IsRow.s h).1 rfl rfl ?_
        refine RW.go ?_
        rw [show xpf (sRow o r (lm x) u) r 1 (.int (Int32.ofInt (u : Int) - 1)) = sRow o r (lm x) m by rw [i_of hi, sRow_pf sRow_i, sRow_s]]
        exact ih m (by omega) (by omega)
theorem c_isZero {o : xO} {r x : Nat} (h : Rn o r x) : Cp y_Row_isZero [.ref r] o (.int (if x = 0 then 1 else 0)) := by
  have hn := big_nl h.2.1
  refine RW.ps 1 rfl ?_
  refine RW.gf h.1.1 h.2.2.2 ?_
  refine RW.ifc (fun h1 => ?_) (fun h1 => ?_)
  · rw [xi_ne, iu (by omega), i0] at h1
    have h1 : ¬ x = 0 := fun z => h1 (by rw [nl_zero.mpr z]; rfl)
    refine RW.ps 1 rfl ?_
    rw [if_neg h1]
    exact RW.re rfl rfl ⟨rfl, rfl⟩
  · rw [xi_ne, iu (by omega), i0] at h1
    have h1 : x = 0 := nl_zero.mp (by omega)
    refine RW.ps 1 rfl ?_
    rw [if_pos h1]
    refine RW.go ?_
    exact RW.re rfl rfl ⟨rfl, rfl⟩
theorem c_clear {o : xO} {r x : Nat} (h : Rn o r x) : Cv y_Row_clear [.ref r] o (fun o' => o' = sNum o r 0) := by
  have hn := big_nl h.2.1
  refine RW.ps 1 rfl ?_
  refine RW.gf h.1.1 h.2.2.2 ?_
  refine RW.ps 3 rfl ?_
  have loop : ∀ n k (i : Int32), k + n = nl x → i.toInt = (k : Int) → ∀ w, w = sRow o r (fun j => if j < k then 0 else lm x j) (nl x) → RW (fun r' o' => r' = .inl none ∧ o' = sNum o r 0) y_Row_clear (xbk y_Row_clear 7) [.ref r, .int (Int32.ofInt (nl x)), .int i] [] w := by
    intro n
    induction n with
    | zero =>
      intro k i hk hi w hw
      subst hw
      refine RW.ps 2 rfl ?_
      refine RW.icm (fun _ => ?_) (fun h1 => ?_)
      · refine RW.ps 2 rfl ?_
        refine RW.pf (IsRow.s h.1).1 rfl rfl ?_
        refine RW.re rfl rfl ⟨rfl, ?_⟩
        show xpf _ r 1 (.int 0) = _
        rw [show (0 : Int32) = Int32.ofInt ((0 : Nat) : Int) by decide, sRow_pf sRow_i, sRow_s]
        have : (fun j => if j < k then (Int32.ofInt ((0 : Nat) : Int)) else lm x j) = lm 0 := by
          funext j
          have e : lm 0 j = Int32.ofInt ((0 : Nat) : Int) := by unfold lm; rw [show dg 0 j = 0 by unfold dg; simp]
          by_cases hj : j < k
          · rw [if_pos hj, e]
          · rw [if_neg hj, e]; unfold lm; rw [dg_zero' (by omega)]
        rw [this]
        rfl
      · rw [xi_ge, hi, iu (by omega)] at h1; omega
    | succ n ih =>
      intro k i hk hi w hw
      subst hw
      refine RW.ps 2 rfl ?_
      refine RW.icm (fun h1 => ?_) (fun _ => ?_)
      · rw [xi_ge, hi, iu (by omega)] at h1; omega
      · refine RW.ps 3 rfl ?_
        refine RW.cv rfl rfl (xrc_v rfl rfl (IsRow.s h.1).1) rfl rfl (c_put (z := 0) (IsRow.s h.1) hi sRow_i sRow_f (by omega) (by omega)) ?_
        intro o' ho'
        refine RW.ps 1 rfl ?_
        refine RW.go ?_
        refine ih (k + 1) (i + 1) (by omega) (i_succ hi (by omega)) o' ?_
        rw [ho', sRow_s, Nat.max_eq_left (by omega)]
        congr 1
        funext j
        by_cases hj : j = k
        · rw [if_pos hj, if_pos (by omega)]; decide
        · rw [if_neg hj]
          by_cases hjk : j < k
          · rw [if_pos hjk, if_pos (by omega)]
          · rw [if_neg hjk, if_neg (by omega)]
  refine loop (nl x) 0 0 (by omega) rfl o ?_
  exact (sRow_eta (by rw [h.2.2.1]; rfl) h.2.2.2).symm
