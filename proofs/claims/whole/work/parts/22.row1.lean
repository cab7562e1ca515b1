/-! ROWS: what the abstract heap holds of a number; reading and writing a limb. -/
def IsRow (o : xO) (r : Nat) : Prop := xk o r = (3, 2) ∧ xf o r 0 = .ref (r + 1) ∧ xk o (r + 1) = (1, 540)
def sRow (o : xO) (r : Nat) (f : Nat → Int32) (u : Nat) : xO := (o.1, (fun b => if b = r + 1 then f else o.2.1 b), xup o.2.2.1 r 1 (.int (Int32.ofInt u)), o.2.2.2)
theorem xO_ext {o o' : xO} (h1 : o.1 = o'.1) (h2 : o.2.1 = o'.2.1) (h3 : o.2.2.1 = o'.2.2.1) (h4 : o.2.2.2 = o'.2.2.2) : o = o' := by
  obtain ⟨a, b, c, d⟩ := o
  obtain ⟨a', b', c', d'⟩ := o'
  dsimp only at h1 h2 h3 h4
  rw [h1, h2, h3, h4]
section SROW
variable {o : xO} {r q u : Nat} {f : Nat → Int32}
theorem sRow_k : xk (sRow o r f u) = xk o := rfl
theorem sRow_i : xi (sRow o r f u) (r + 1) = f := if_pos rfl
theorem sRow_i_ne (h : q ≠ r + 1) : xi (sRow o r f u) q = xi o q := if_neg h
theorem sRow_f : xf (sRow o r f u) r 1 = .int (Int32.ofInt u) := if_pos ⟨rfl, rfl⟩
theorem sRow_f_ne (h : q ≠ r) (k : Nat) : xf (sRow o r f u) q k = xf o q k := if_neg (fun z => h z.1)
theorem sRow_f_k {k : Nat} (h : k ≠ 1) (q : Nat) : xf (sRow o r f u) q k = xf o q k := if_neg (fun z => h z.2)
theorem sRow_s {g : Nat → Int32} {v : Nat} : sRow (sRow o r f u) r g v = sRow o r g v := by
  refine xO_ext (by rfl) ?_ ?_ ?_
  · funext b; show (if b = r + 1 then g else if b = r + 1 then f else o.2.1 b) = if b = r + 1 then g else o.2.1 b
    by_cases h : b = r + 1
    · rw [if_pos h, if_pos h]
    · rw [if_neg h, if_neg h, if_neg h]
  · funext b j; show (if b = r ∧ j = 1 then _ else if b = r ∧ j = 1 then _ else o.2.2.1 b j) = if b = r ∧ j = 1 then _ else o.2.2.1 b j
    by_cases h : b = r ∧ j = 1
    · rw [if_pos h, if_pos h]
    · rw [if_neg h, if_neg h, if_neg h]
  · rfl
theorem sRow_eta (hf : xi o (r + 1) = f) (hu : xf o r 1 = .int (Int32.ofInt u)) : sRow o r f u = o := by
  refine xO_ext (by rfl) ?_ ?_ ?_
  · funext b; show (if b = r + 1 then f else o.2.1 b) = o.2.1 b
    by_cases h : b = r + 1
    · rw [if_pos h, h, ← hf]; rfl
    · rw [if_neg h]
  · funext b j; show (if b = r ∧ j = 1 then _ else o.2.2.1 b j) = o.2.2.1 b j
    by_cases h : b = r ∧ j = 1
    · rw [if_pos h, h.1, h.2]; exact hu.symm
    · rw [if_neg h]
  · rfl
theorem IsRow.s (h : IsRow o q) : IsRow (sRow o r f u) q := ⟨h.1, by rw [sRow_f_k (by decide)]; exact h.2.1, h.2.2⟩
/-- a field's write, as a row's -/
theorem sRow_pf {g : Nat → Int32} {v : Nat} (hf : xi o (r + 1) = g) : xpf o r 1 (.int (Int32.ofInt v)) = sRow o r g v := by
  refine xO_ext (by rfl) ?_ ?_ ?_
  · funext b; show o.2.1 b = if b = r + 1 then g else o.2.1 b
    by_cases h : b = r + 1
    · rw [if_pos h, h, ← hf]; rfl
    · rw [if_neg h]
  · rfl
  · rfl
theorem sRow_pi {k : Nat} {x : Int32} (hu : xf o r 1 = .int (Int32.ofInt u)) (hf : xi o (r + 1) = f) : xpi o (r + 1) k x = sRow o r (fun j => if j = k then x else f j) u := by
  refine xO_ext (by rfl) ?_ ?_ ?_
  · funext b j; show (if b = r + 1 ∧ j = k then x else o.2.1 b j) = (if b = r + 1 then (fun j => if j = k then x else f j) else o.2.1 b) j
    by_cases h : b = r + 1
    · rw [if_pos h]
      by_cases hj : j = k
      · rw [if_pos ⟨h, hj⟩]; exact (if_pos hj).symm
      · rw [if_neg (fun z => hj z.2)]
        show _ = if j = k then x else f j
        rw [if_neg hj, h, ← hf]; rfl
    · rw [if_neg h, if_neg (fun z => h z.1)]
  · funext b j; show o.2.2.1 b j = if b = r ∧ j = 1 then _ else o.2.2.1 b j
    by_cases h : b = r ∧ j = 1
    · rw [if_pos h, h.1, h.2]; exact hu
    · rw [if_neg h]
  · rfl
end SROW
theorem i0 : (0 : Int32).toInt = 0 := rfl
theorem i540 : (Int32.ofNat 540).toInt = 540 := rfl
theorem xi_lt {a b : Int32} : xcd .lt a b ↔ a.toInt < b.toInt := Int32.lt_iff_toInt_lt
theorem xi_ge {a b : Int32} : xcd .ge a b ↔ b.toInt ≤ a.toInt := Int32.le_iff_toInt_le
theorem xi_gt {a b : Int32} : xcd .gt a b ↔ b.toInt < a.toInt := Int32.lt_iff_toInt_lt
theorem xi_le {a b : Int32} : xcd .le a b ↔ a.toInt ≤ b.toInt := Int32.le_iff_toInt_le
theorem xi_eq {a b : Int32} : xcd .eq a b ↔ a.toInt = b.toInt := Int32.toInt_inj.symm
theorem xi_ne {a b : Int32} : xcd .ne a b ↔ a.toInt ≠ b.toInt := not_congr Int32.toInt_inj.symm
theorem c_at {o : xO} {r k d : Nat} {i : Int32} (h : IsRow o r) (hi : i.toInt = (k : Int)) (hd : k < 540 → xi o (r + 1) k = Int32.ofInt d) (hz : 540 ≤ k → d = 0) (hb : d < 2147483648) : Cp y_Row_at [.ref r, .int i] o (.long (Int64.ofInt d)) := by
  refine RW.ps 1 rfl ?_
  refine RW.ifc (fun h1 => ?_) (fun _ => ?_)
  · rw [xi_lt, hi, i0] at h1; omega
  refine RW.ps 2 rfl ?_
  refine RW.gf h.1 h.2.1 ?_
  refine RW.al h.2.2 ?_
  refine RW.icm (fun h2 => ?_) (fun h2 => ?_)
  · rw [xi_ge, hi, i540] at h2
    have h0 := hz (by omega)
    subst h0
    refine RW.ps 1 rfl ?_
    exact RW.re rfl rfl ⟨rfl, rfl⟩
  · rw [xi_ge, hi, i540] at h2
    have hk : k < 540 := by omega
    refine RW.ps 1 rfl ?_
    refine RW.gf h.1 h.2.1 ?_
    refine RW.ps 1 rfl ?_
    refine RW.ia h.2.2 hi hk ?_
    rw [hd hk]
    refine RW.ps 1 rfl ?_
    refine RW.go ?_
    refine RW.re rfl rfl ⟨?_, rfl⟩
    rw [ii_l (by omega) (by omega)]
theorem c_at_neg {o : xO} {r : Nat} {i : Int32} (hi : i.toInt < 0) : Cp y_Row_at [.ref r, .int i] o (.long 0) := by
  refine RW.ps 1 rfl ?_
  refine RW.ifc (fun h1 => ?_) (fun h1 => ?_)
  · refine RW.ps 1 rfl ?_
    exact RW.re rfl rfl ⟨rfl, rfl⟩
  · rw [xi_lt, i0] at h1; omega
theorem c_put {o : xO} {r k u : Nat} {i : Int32} {f : Nat → Int32} {z : Int} (h : IsRow o r) (hi : i.toInt = (k : Int)) (hf : xi o (r + 1) = f) (hu : xf o r 1 = .int (Int32.ofInt u)) (hk : k < 540) (hu1 : u ≤ 540) :
    Cv y_Row_put [.ref r, .int i, .long (Int64.ofInt z)] o (fun o' => o' = sRow o r (fun j => if j = k then Int32.ofInt (z % 2147483648) else f j) (max u (k + 1))) := by
  refine RW.ps 1 rfl ?_
  refine RW.ifc (fun h1 => ?_) (fun _ => ?_)
  · rw [xi_lt, hi, i0] at h1; omega
  refine RW.ps 2 rfl ?_
  refine RW.gf h.1 h.2.1 ?_
  refine RW.al h.2.2 ?_
  refine RW.icm (fun _ => ?_) (fun h2 => ?_)
  · refine RW.ps 1 rfl ?_
    refine RW.gf h.1 h.2.1 ?_
    refine RW.ps 5 rfl ?_
    rw [li_and]
    refine RW.ist h.2.2 hi hk ?_
    rw [sRow_pi hu hf]
    refine RW.ps 2 rfl ?_
    refine RW.gf (IsRow.s h).1 sRow_f ?_
    refine RW.icm (fun h3 => ?_) (fun h3 => ?_)
    · rw [xi_lt, hi, ii_toInt (by omega) (by omega)] at h3
      refine RW.re rfl rfl ⟨rfl, ?_⟩
      rw [Nat.max_eq_left (by omega)]
    · rw [xi_lt, hi, ii_toInt (by omega) (by omega)] at h3
      refine RW.ps 4 rfl ?_
      refine RW.pf (IsRow.s h).1 rfl rfl ?_
      refine RW.re rfl rfl ⟨rfl, ?_⟩
      have e : i + 1 = Int32.ofInt ((k + 1 : Nat) : Int) := by
        apply Int32.toInt_inj.mp
        rw [ii_toInt (by omega) (by omega), Int32.toInt_add, hi]
        show ((k : Int) + 1).bmod (2 ^ 32) = _
        rw [Int.bmod_eq_of_le (by omega) (by omega)]
        omega
      show xpf _ r 1 (.int (i + 1)) = _
      rw [e, sRow_pf sRow_i, sRow_s, Nat.max_eq_right (by omega)]
  · rw [xi_lt, hi, i540] at h2; omega
theorem c_put_out {o : xO} {r k : Nat} {i : Int32} {w : Int64} (h : IsRow o r) (hi : i.toInt = (k : Int)) (hk : 540 ≤ k) : Cv y_Row_put [.ref r, .int i, .long w] o (fun o' => o' = o) := by
  refine RW.ps 1 rfl ?_
  refine RW.ifc (fun h1 => ?_) (fun _ => ?_)
  · rw [xi_lt, hi, i0] at h1; omega
  refine RW.ps 2 rfl ?_
  refine RW.gf h.1 h.2.1 ?_
  refine RW.al h.2.2 ?_
  refine RW.icm (fun h2 => ?_) (fun _ => ?_)
  · rw [xi_lt, hi, i540] at h2; omega
  · exact RW.re rfl rfl ⟨rfl, rfl⟩
