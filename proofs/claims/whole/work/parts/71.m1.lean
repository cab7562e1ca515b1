/-! THE REFERENCE: part, cut, copy, small. -/
/-- the parts below k are those of S, the others (as far as they count) those of x -/
def Md (o : xO) (a L n k S x : Nat) : Prop := xk o a = (1, L) ∧ n < L ∧ xi o a 0 = Int32.ofInt (n : Nat) ∧ (∀ j, j < k → xi o a (j + 1) = Int32.ofInt (d16 S j : Nat)) ∧ ∀ j, k ≤ j → j < n → xi o a (j + 1) = Int32.ofInt (d16 x j : Nat)
section MD
variable {o o' : xO} {a L n k S x : Nat}
theorem Mu.md0 (h : Mu o a L n x) (S : Nat) : Md o a L n 0 S x := ⟨h.1, h.2.1, h.2.2.2.1, fun j hj => absurd hj (Nat.not_lt_zero j), fun j _ hj => h.2.2.2.2 j hj⟩
theorem Mu.mdn (h : Mu o a L n x) (S : Nat) : Md o a L n n x S := ⟨h.1, h.2.1, h.2.2.2.1, fun j hj => h.2.2.2.2 j hj, fun j h1 h2 => absurd h2 (by omega)⟩
theorem Md.up (h : Md o a L n k S x) : Md (xpi o a (k + 1) (Int32.ofInt (d16 S k : Nat))) a L n (k + 1) S x :=
  ⟨h.1, h.2.1, (xpi_ne (fun _ => by omega)).trans h.2.2.1, fun j hj => by
    by_cases hjk : j = k
    · subst hjk; exact xpi_same
    · rw [xpi_ne (fun _ => by omega)]; exact h.2.2.2.1 j (by omega), fun j h1 h2 => (xpi_ne (fun _ => by omega)).trans (h.2.2.2.2 j (by omega) h2)⟩
theorem Md.dn (h : Md o a L n (k + 1) S x) : Md (xpi o a (k + 1) (Int32.ofInt (d16 x k : Nat))) a L n k S x :=
  ⟨h.1, h.2.1, (xpi_ne (fun _ => by omega)).trans h.2.2.1, fun j hj => (xpi_ne (fun _ => by omega)).trans (h.2.2.2.1 j (by omega)), fun j h1 h2 => by
    by_cases hjk : j = k
    · subst hjk; exact xpi_same
    · rw [xpi_ne (fun _ => by omega)]; exact h.2.2.2.2 j (by omega) h2⟩
theorem Md.mu (h : Md o a L n n S x) (hS : S < 65536 ^ n) : Mu o a L n S := ⟨h.1, h.2.1, hS, h.2.2.1, h.2.2.2.1⟩
theorem Md.mu0 (h : Md o a L n 0 S x) (hx : x < 65536 ^ n) : Mu o a L n x := ⟨h.1, h.2.1, hx, h.2.2.1, fun j hj => h.2.2.2.2 j (Nat.zero_le _) hj⟩
/-- the count is set behind the parts -/
theorem Md.len (h : Md o a L n k S x) (hk : k < L) (hS : S < 65536 ^ k) : Mu (xpi o a 0 (Int32.ofInt (k : Nat))) a L k S := ⟨h.1, hk, hS, xpi_same, fun j hj => (xpi_ne (fun _ => by omega)).trans (h.2.2.2.1 j hj)⟩
end MD
theorem Fr.pi1 {o o' : xO} {a j : Nat} {v : Int32} (h : Fr [(a, 1)] o o') : Fr [(a, 1)] o (xpi o' a j v) := h.trans Fr.pi
theorem i0n : (0 : Int32).toInt = ((0 : Nat) : Int) := rfl
theorem is1 (n : Nat) : Int32.ofInt (n : Int) + 1 = Int32.ofInt ((n + 1 : Nat) : Int) := by rw [show (1 : Int32) = Int32.ofInt 1 by decide, ii_add]; rfl
theorem is1' (n : Nat) : Int32.ofInt ((n + 1 : Nat) : Int) - 1 = Int32.ofInt (n : Int) := by rw [show (1 : Int32) = Int32.ofInt 1 by decide, ii_sub]; congr 1; omega
theorem ii_mask (z : Int) : Int32.ofInt z &&& 65535 = Int32.ofInt (z % 65536) := by
  apply Int32.toBitVec_inj.mp
  show (BitVec.ofInt 32 z &&& 65535#32) = BitVec.ofInt 32 (z % 65536)
  apply BitVec.eq_of_toNat_eq
  rw [BitVec.toNat_and, BitVec.toNat_ofInt, BitVec.toNat_ofInt, show (65535#32).toNat = 2 ^ 16 - 1 from rfl, Nat.and_two_pow_sub_one_eq_mod]
  omega
theorem li_mask16 (z : Int) : Int64.ofInt z &&& 65535 = Int64.ofInt (z % 65536) := by
  apply Int64.toBitVec_inj.mp
  show (BitVec.ofInt 64 z &&& 65535#64) = BitVec.ofInt 64 (z % 65536)
  apply BitVec.eq_of_toNat_eq
  rw [BitVec.toNat_and, BitVec.toNat_ofInt, BitVec.toNat_ofInt, show (65535#64).toNat = 2 ^ 16 - 1 from rfl, Nat.and_two_pow_sub_one_eq_mod]
  omega
theorem li_low16 (z : Int) : (Int64.ofInt z &&& 65535).toInt32 = Int32.ofInt (z % 65536) := by rw [li_mask16, ii_toInt32]
theorem n16_step {x n : Nat} (h : x < 65536 ^ (n + 1)) (h0 : d16 x n = 0) : x < 65536 ^ n := by
  unfold d16 at h0
  have h1 : x / 65536 ^ n < 65536 := by
    rw [Nat.div_lt_iff_lt_mul (pow16_pos n), Nat.mul_comm, ← Nat.pow_succ]; exact h
  rw [Nat.mod_eq_of_lt h1] at h0
  rcases Nat.div_eq_zero_iff.mp h0 with h2 | h2
  · have := pow16_pos n; omega
  · exact h2
theorem n16_is {x n : Nat} (h : x < 65536 ^ (n + 1)) (h0 : d16 x n ≠ 0) : n16 x = n + 1 := by
  have h1 := n16_le.mpr h
  rcases Nat.lt_or_ge (n16 x) (n + 1) with h2 | h2
  · exact absurd (d16_zero' (by omega)) h0
  · omega
section M1
variable {o : xO} {a b L Lb n m x y : Nat}
theorem c_part0 {k v : Nat} {iw : Int32} (hk : xk o a = (1, L)) (h0 : xi o a 0 = Int32.ofInt (n : Nat)) (hn : n < L) (hL : L ≤ 9000) (hi : iw.toInt = (k : Int)) (h1 : k < n → xi o a (k + 1) = Int32.ofInt (v : Nat)) (h2 : n ≤ k → v = 0) : Cp y_M_part [.ref a, .int iw] o (.int (Int32.ofInt (v : Nat))) := by
  refine RW.ps 3 rfl ?_
  refine RW.ia hk i0n (by omega) ?_
  rw [h0]
  refine RW.icm (fun k2 => ?_) (fun k2 => ?_)
  · rw [xi_ge, iu (by omega), hi] at k2
    refine RW.ps 1 rfl ?_
    rw [h2 (by omega)]
    exact RW.re rfl rfl ⟨rfl, rfl⟩
  · rw [xi_ge, iu (by omega), hi] at k2
    refine RW.ps 4 rfl ?_
    refine RW.ia hk (i_succ hi (by omega)) (by omega) ?_
    rw [h1 (by omega)]
    refine RW.go ?_
    exact RW.re rfl rfl ⟨rfl, rfl⟩
theorem c_mpart {k : Nat} {iw : Int32} (h : Mu o a L n x) (hL : L ≤ 9000) (hi : iw.toInt = (k : Int)) : Cp y_M_part [.ref a, .int iw] o (.int (Int32.ofInt (d16 x k : Nat))) :=
  c_part0 h.1 h.2.2.2.1 h.2.1 hL hi (fun hk => h.2.2.2.2 k hk) (fun hk => d16_big h hk)
theorem c_cut (hL : L ≤ 9000) : ∀ n (o : xO), Mu o a L n x → Cv y_M_cut [.ref a] o (fun o' => Fr [(a, 1)] o o' ∧ Mn o' a L x) := by
  intro n
  induction n with
  | zero =>
    intro o h
    refine RW.ps 2 rfl ?_
    refine RW.ia h.1 i0n (by have := h.2.1; omega) ?_
    rw [h.2.2.2.1]
    refine RW.ifc (fun _ => ?_) (fun k => absurd (xi_le.mpr (by decide)) k)
    refine RW.re rfl rfl ⟨rfl, Fr.refl _ _, ?_⟩
    unfold Mn
    rw [n16_le.mpr h.2.2.1 |> Nat.le_zero.mp]
    exact h
  | succ n ih =>
    intro o h
    have hn := h.2.1
    refine RW.ps 2 rfl ?_
    refine RW.ia h.1 i0n (by omega) ?_
    rw [h.2.2.2.1]
    refine RW.ifc (fun k => ?_) (fun _ => ?_)
    · rw [xi_le, iu (by omega), i0] at k; omega
    refine RW.ps 3 rfl ?_
    refine RW.ia h.1 i0n (by omega) ?_
    rw [h.2.2.2.1]
    refine RW.ia h.1 (iu (u := n + 1) (by omega)) (by omega) ?_
    rw [h.2.2.2.2 n (by omega)]
    have hd := d16_lt x n
    refine RW.ifc (fun k => ?_) (fun k => ?_)
    · rw [xi_ne, iu (by omega), i0] at k
      refine RW.re rfl rfl ⟨rfl, Fr.refl _ _, ?_⟩
      unfold Mn
      rw [n16_is h.2.2.1 (by omega)]
      exact h
    · rw [xi_ne, iu (by omega), i0] at k
      have hx := n16_step h.2.2.1 (by omega)
      refine RW.ps 3 rfl ?_
      refine RW.ia h.1 i0n (by omega) ?_
      rw [h.2.2.2.1]
      refine RW.ps 2 rfl ?_
      refine RW.top (congrArg Value.int (is1' n)) ?_
      refine RW.ist h.1 i0n (by omega) ?_
      refine RW.go ?_
      have h2 := h.len (n2 := n) (by omega) hx (by omega)
      obtain ⟨N, r, o', e1, e2, e3, e4⟩ := ih _ h2
      refine ⟨N, r, o', e1, e2, ?_, e4⟩
      exact Fr.trans Fr.pi e3
theorem c_cutn (h : Mu o a L n x) (hL : L ≤ 9000) : Cv y_M_cut [.ref a] o (fun o' => Fr [(a, 1)] o o' ∧ Mn o' a L x) := c_cut hL n o h
theorem c_copy (h : Mu o a L n x) (hL : L ≤ 9000) (hb : xk o b = (1, Lb)) (hn : n < Lb) (hab : a ≠ b) : Cv y_M_copy [.ref a, .ref b] o (fun o' => Fr [(b, 1)] o o' ∧ Mu o' b Lb n x) := by
  have hnL := h.2.1
  have loop : ∀ q k (iw : Int32) w, k + q = n + 1 → iw.toInt = (k : Int) → Fr [(b, 1)] o w → (∀ j, j < k → xi w b j = xi o a j) → RW (fun r o' => r = .inl none ∧ (Fr [(b, 1)] o o' ∧ Mu o' b Lb n x)) y_M_copy (xbk y_M_copy 2) [.ref a, .ref b, .int iw] [] w := by
    intro q
    induction q with
    | zero =>
      intro k iw w hk hi hf hj
      have oa : Out [(b, 1)] a := Out.one (by omega)
      refine RW.ps 3 rfl ?_
      refine RW.ia (hf.k.trans h.1) i0n (by omega) ?_
      rw [hf.i oa, h.2.2.2.1]
      refine RW.icm (fun _ => ?_) (fun k2 => ?_)
      · refine RW.re rfl rfl ⟨rfl, hf, hf.k.trans hb, hn, h.2.2.1, ?_, fun j hjn => ?_⟩
        · rw [hj 0 (by omega)]; exact h.2.2.2.1
        · rw [hj (j + 1) (by omega)]; exact h.2.2.2.2 j hjn
      · rw [xi_gt, iu (by omega), hi] at k2; omega
    | succ q ih =>
      intro k iw w hk hi hf hj
      have oa : Out [(b, 1)] a := Out.one (by omega)
      refine RW.ps 3 rfl ?_
      refine RW.ia (hf.k.trans h.1) i0n (by omega) ?_
      rw [hf.i oa, h.2.2.2.1]
      refine RW.icm (fun k2 => ?_) (fun _ => ?_)
      · rw [xi_gt, iu (by omega), hi] at k2; omega
      refine RW.ps 4 rfl ?_
      refine RW.ia (hf.k.trans h.1) hi (by omega) ?_
      rw [hf.i oa]
      refine RW.ist (hf.k.trans hb) hi (by omega) ?_
      refine RW.ps 1 rfl ?_
      refine RW.go ?_
      refine ih (k + 1) (iw + 1) _ (by omega) (i_succ hi (by omega)) hf.pi1 (fun j hjk => ?_)
      by_cases hjk2 : j = k
      · subst hjk2; exact xpi_same
      · rw [xpi_ne (fun _ => hjk2)]; exact hj j (by omega)
  refine RW.ps 2 rfl ?_
  exact loop (n + 1) 0 0 o (Nat.zero_add _) rfl (Fr.refl _ _) (fun j hj => absurd hj (Nat.not_lt_zero j))
theorem n16_small {v : Nat} (h : v < 65536) : n16 v = if v = 0 then 0 else 1 := by
  by_cases h0 : v = 0
  · rw [if_pos h0, h0]; exact n16_zero.mpr rfl
  · rw [if_neg h0]
    have h1 : n16 v ≤ 1 := n16_le.mpr (by rw [Nat.pow_one]; exact h)
    have h2 : n16 v ≠ 0 := fun z => h0 (n16_zero.mp z)
    omega
theorem d16_small {v : Nat} (h : v < 65536) : d16 v 0 = v := by unfold d16; rw [Nat.pow_zero, Nat.div_one, Nat.mod_eq_of_lt h]
theorem c_small {v : Nat} {vw : Int32} (ha : xk o a = (1, L)) (hL : 2 ≤ L) (hv : vw.toInt = (v : Int)) (hv2 : v < 65536) : Cv y_M_small [.ref a, .int vw] o (fun o' => Fr [(a, 1)] o o' ∧ Mn o' a L v) := by
  have hvw := i_of hv
  have h11 : ∀ c : Int32, c = Int32.ofInt (n16 v : Nat) → RW (fun r o' => r = .inl none ∧ (Fr [(a, 1)] o o' ∧ Mn o' a L v)) y_M_small (xbk y_M_small 11) [.ref a, .int vw] [.int c, .int 0, .ref a] o := by
    intro c hc
    subst hc
    refine RW.ist ha i0n (by omega) ?_
    refine RW.ps 3 rfl ?_
    refine RW.ist (k := 1) ha rfl (by omega) ?_
    refine RW.re rfl rfl ⟨rfl, Fr.trans Fr.pi Fr.pi, ?_⟩
    have h1 := n16_small hv2
    refine ⟨ha, ?_, ?_, ?_, fun k hk => ?_⟩
    · split at h1 <;> omega
    · exact n16_le.mp (Nat.le_refl _)
    · exact (xpi_ne (fun _ => by decide)).trans xpi_same
    · have hk0 : k = 0 := by split at h1 <;> omega
      subst hk0
      rw [d16_small hv2, ← hvw]
      exact xpi_same
  refine RW.ps 3 rfl ?_
  refine RW.ifc (fun k => ?_) (fun k => ?_)
  · rw [xi_ne, hv, i0] at k
    refine RW.ps 1 rfl ?_
    exact h11 1 (by rw [n16_small hv2, if_neg (by omega)]; rfl)
  · rw [xi_ne, hv, i0] at k
    refine RW.ps 1 rfl ?_
    refine RW.go ?_
    exact h11 0 (by rw [n16_small hv2, if_pos (by omega)]; rfl)
end M1
