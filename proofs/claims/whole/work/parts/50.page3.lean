/-! PAGE: a group of digits. -/
def chr (d : Nat) : Int32 := if d < 10 then Int32.ofInt ((48 + d : Nat) : Int) else Int32.ofInt ((55 + d : Nat) : Int)
/-- the digits of x to the base b, the lowest first, at most n of them -/
def dgl (b : Nat) : Nat → Nat → List Int32
  | 0, _ => []
  | n + 1, x => if x = 0 then [] else chr (x % b) :: dgl b n (x / b)
theorem dgl_0 (b : Nat) : ∀ n, dgl b n 0 = [] := by
  intro n; cases n with
  | zero => rfl
  | succ n => rw [dgl, if_pos rfl]
theorem dgl_add (b : Nat) : ∀ m n x, dgl b (m + n) x = dgl b m x ++ dgl b n (x / b ^ m) := by
  intro m
  induction m with
  | zero => intro n x; rw [Nat.zero_add, Nat.pow_zero, Nat.div_one]; rfl
  | succ m ih =>
    intro n x
    rw [show m + 1 + n = (m + n) + 1 by omega, dgl, dgl]
    by_cases h : x = 0
    · rw [if_pos h, if_pos h, h, Nat.zero_div, dgl_0]; rfl
    · rw [if_neg h, if_neg h, ih, Nat.div_div_eq_div_mul, ← Nat.pow_succ']; rfl
theorem dgl_len (b : Nat) : ∀ n x, (dgl b n x).length ≤ n := by
  intro n
  induction n with
  | zero => intro x; exact Nat.le_refl _
  | succ n ih =>
    intro x
    rw [dgl]
    split
    · exact Nat.zero_le _
    · exact Nat.succ_le_succ (ih _)
