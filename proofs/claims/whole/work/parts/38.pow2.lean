/-! POWERS BY REST. -/
def PwS (P : Nat) : List (Nat × Nat) := [(P + 1, 6), (P + 8, 6)]
theorem PwS.out {P b : Nat} (h : b ≤ P ∨ b = P + 7 ∨ P + 14 ≤ b) : Out (PwS P) b := ⟨by dsimp only; omega, by dsimp only; omega, trivial⟩
theorem PwS.r1 {P b r : Nat} (hr : P < r) (h : r + 2 ≤ P + 7 ∨ (P + 8 ≤ r ∧ r + 2 ≤ P + 14)) (k : Out (PwS P) b) : Out [(r, 2)] b := by
  have h1 := k.1; have h2 := k.2.1
  dsimp only at h1 h2
  exact ⟨by dsimp only; omega, trivial⟩
theorem PwS.d {P b : Nat} (k : Out (PwS P) b) : Out [(P + 7 + 1, 6)] b := by
  have h2 := k.2.1
  dsimp only at h2
  exact ⟨by dsimp only; omega, trivial⟩
theorem c_multiplyByRest {o : xO} {P f mo A F y v5 v8 v10 v12 : Nat} (hp : IsPw o P) (ha : Rn o (P + 1) A) (hpr : Rn o (P + 5) v5) (h8 : Rn o (P + 8) v8) (h10 : Rn o (P + 10) v10) (h12 : Rn o (P + 12) v12) (hf : Rn o f F) (hfp : f ≠ P + 5) (hm : Rn o mo y) (hmp : mo + 2 ≤ P ∨ P + 14 ≤ mo) (hy : 0 < y) (hA : nl A ≤ 265) (hF : nl F ≤ 265) (hY : nl y ≤ 265) :
    Cv y_Powers_multiplyByRest [.ref P, .ref f, .ref mo] o (fun o' => Fr [(P + 1, 2), (P + 5, 2), (P + 8, 6)] o o' ∧ Rn o' (P + 1) (A * F % y) ∧ Rx o' (P + 5) ∧ Rx o' (P + 8) ∧ Rx o' (P + 10) ∧ Rx o' (P + 12)) := by
  have hB : A * F < BIG := mul_big (by omega)
  have hnl : nl (A * F) ≤ 530 := by
    rw [nl_le]
    have h3 := Nat.mul_lt_mul'' (nl_le.mp hA) (nl_le.mp hF)
    rw [← Nat.pow_add] at h3
    exact h3
  refine RW.ps 1 rfl ?_
  refine RW.gf hp.1 hp.2.2.2.1 ?_
  refine RW.ps 1 rfl ?_
  refine RW.gf hp.1 hp.2.1 ?_
  refine RW.ps 1 rfl ?_
  refine RW.cv rfl rfl (xrc_v rfl rfl hpr.1.1) rfl rfl (c_becomeProduct hpr ha hf (by omega) hfp (by omega)) ?_
  intro o1 ho1
  have f1 : Fr [(P + 1, 2), (P + 5, 2), (P + 8, 6)] o o1 := by subst ho1; exact Fr.up Fr.num (fun b hb => ⟨by have := hb.2.1; dsimp only at this ⊢; omega, trivial⟩)
  have oP : Out [(P + 1, 2), (P + 5, 2), (P + 8, 6)] P := ⟨by dsimp only; omega, by dsimp only; omega, by dsimp only; omega, trivial⟩
  have oP7 : Out [(P + 1, 2), (P + 5, 2), (P + 8, 6)] (P + 7) := ⟨by dsimp only; omega, by dsimp only; omega, by dsimp only; omega, trivial⟩
  have hp1 := hp.fr f1 oP oP7
  have ha1 : Rn o1 (P + 1) A := by subst ho1; exact ha.ne (by omega)
  have hr1 : Rn o1 (P + 5) (A * F) := by subst ho1; exact Rn.num hpr hB
  have h81 : Rn o1 (P + 8) v8 := by subst ho1; exact h8.ne (by omega)
  have h101 : Rn o1 (P + 10) v10 := by subst ho1; exact h10.ne (by omega)
  have h121 : Rn o1 (P + 12) v12 := by subst ho1; exact h12.ne (by omega)
  have hm1 : Rn o1 mo y := by subst ho1; exact hm.ne (by omega)
  clear ho1
  refine RW.weak (lv0 := [.ref P, .ref f, .ref mo]) ⟨Or.inr rfl, Or.inr rfl, Or.inr rfl, trivial⟩ ?_
  refine RW.sk [] rfl ?_
  refine RW.ps 1 rfl ?_
  refine RW.gf hp1.1 hp1.2.2.2.2.1 ?_
  refine RW.ps 1 rfl ?_
  refine RW.gf hp1.1 hp1.2.2.2.1 ?_
  refine RW.ps 1 rfl ?_
  refine RW.cv rfl rfl (xrc_v rfl rfl hp1.2.2.2.2.2.1) rfl rfl (c_divide hp1.2.2.2.2.2 h81 h101 h121 hr1 hm1 hy (by omega) (by omega) (by omega) (by omega)) ?_
  intro o2 ⟨f2, hq2, hr2, hx2⟩
  have oo : ∀ b, (b < P + 7 + 1 ∨ P + 7 + 1 + 6 ≤ b) → Out [(P + 7 + 1, 6)] b := fun b h => ⟨h, trivial⟩
  have hp2 := hp1.fr f2 (oo _ (by omega)) (oo _ (by omega))
  have ha2 := ha1.fr f2 (oo _ (by omega)) (oo _ (by omega))
  have hpr2 := hr1.fr f2 (oo _ (by omega)) (oo _ (by omega))
  refine RW.weak (lv0 := [.ref P, .ref f, .ref mo]) ⟨Or.inr rfl, Or.inr rfl, Or.inr rfl, trivial⟩ ?_
  refine RW.sk [] rfl ?_
  refine RW.ps 1 rfl ?_
  refine RW.gf hp2.1 hp2.2.1 ?_
  refine RW.ps 1 rfl ?_
  refine RW.gf hp2.1 hp2.2.2.2.2.1 ?_
  refine RW.gf hp2.2.2.2.2.2.1 hp2.2.2.2.2.2.2.2.1 ?_
  refine RW.cv rfl rfl (xrc_v rfl rfl ha2.1.1) rfl rfl (c_become ha2 hr2) ?_
  intro o3 ho3
  refine RW.re rfl rfl ⟨rfl, ?_, ?_, ?_, ?_, ?_, ?_⟩
  · subst ho3
    exact (f1.trans (f2.up (fun b hb => ⟨by have := hb.2.2.1; dsimp only at this ⊢; omega, trivial⟩))).trans (Fr.up Fr.num (fun b hb => ⟨by have := hb.1; dsimp only at this ⊢; omega, trivial⟩))
  · subst ho3; exact Rn.num ha2 hr2.2.1
  · subst ho3; exact ⟨_, hpr2.ne (by omega)⟩
  · subst ho3; exact ⟨_, hq2.ne (by omega)⟩
  · subst ho3; exact ⟨_, hr2.ne (by omega)⟩
  · subst ho3; obtain ⟨v, hv⟩ := hx2; exact ⟨v, hv.ne (by omega)⟩
/-- the rest of a, from 0 on -/
def rst (a : Int) (m : Nat) : Nat := (a % (m : Int)).toNat
theorem rst_pos {a : Int} {m : Nat} (h : 0 ≤ a) : rst a m = a.natAbs % m := by
  unfold rst
  have e : a = (a.natAbs : Int) := by omega
  rw [e, ← Int.natCast_emod, Int.toNat_natCast, Int.natAbs_natCast]
theorem rst_neg {a : Int} {m : Nat} (h : a < 0) (hm : 0 < m) : rst a m = if a.natAbs % m = 0 then 0 else m - a.natAbs % m := by
  unfold rst
  have hr := Nat.mod_lt a.natAbs hm
  have hd := Nat.div_add_mod a.natAbs m
  generalize a.natAbs % m = r at hr hd
  generalize a.natAbs / m = q at hd
  have e : a = -((m : Int) * q) - r := by
    rw [← Int.natCast_mul]; omega
  by_cases h0 : r = 0
  · subst h0
    rw [if_pos rfl, e, show -((m : Int) * q) - ((0 : Nat) : Int) = (m : Int) * (-q) by rw [Int.mul_neg]; omega, Int.mul_emod_right]
    rfl
  · rw [if_neg h0, e, show -((m : Int) * q) - (r : Int) = ((m - r : Nat) : Int) + (m : Int) * (-q - 1) by rw [Int.mul_sub, Int.mul_neg, Int.mul_one]; omega, Int.add_mul_emod_self_left, Int.emod_eq_of_lt (by omega) (by omega)]
    rfl
theorem rst_lt {a : Int} {m : Nat} (hm : 0 < m) : rst a m < m := by
  unfold rst
  have h1 := Int.emod_nonneg a (show (m : Int) ≠ 0 by omega)
  have h2 := Int.emod_lt_of_pos a (show (0 : Int) < m by omega)
  omega
theorem nl_lt {x y : Nat} (h : x < y) : nl x ≤ nl y := nl_mono (Nat.le_of_lt h)
