/-! PAGE: write. -/
theorem dgl_stab {b n k x : Nat} (h : x < b ^ n) : dgl b (n + k) x = dgl b n x := by
  rw [dgl_add, Nat.div_eq_of_lt h, dgl_0, List.append_nil]
/-- what is written of a number, the last character first -/
def pr (z : Int) (b : Nat) : List Int32 := (if z = 0 then [48] else dgl b 8192 z.natAbs) ++ (if z < 0 then [45] else [])
theorem top_pow {b : Nat} (hb : 2 ≤ b) : TOP ≤ b ^ 8192 := Nat.pow_le_pow_left hb 8192
theorem dgl_cut {b n x : Nat} (hb : 2 ≤ b) (hx : x < TOP) (hn : n ≤ 8192) : dgl b 8192 x = dgl b n x ++ dgl b 8192 (x / b ^ n) := by
  obtain ⟨k, hk⟩ : ∃ k, 8192 = n + k := ⟨8192 - n, by omega⟩
  have h1 : x / b ^ n < b ^ k := by
    rw [Nat.div_lt_iff_lt_mul (Nat.pow_pos (by omega)), Nat.mul_comm, ← Nat.pow_add, ← hk]
    exact Nat.lt_of_lt_of_le hx (top_pow hb)
  have h2 : dgl b 8192 (x / b ^ n) = dgl b k (x / b ^ n) := by
    rw [show 8192 = k + n by omega]; exact dgl_stab h1
  rw [h2, ← dgl_add, ← hk]
