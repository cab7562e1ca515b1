/-! THE REFERENCE'S CALLS: bits, combine. -/
theorem m_xor {a b : Nat} (ha : a < 2 ^ 32) (hb : b < 2 ^ 32) : Int32.ofInt (a : Int) ^^^ Int32.ofInt (b : Int) = Int32.ofInt ((a ^^^ b : Nat) : Int) := by
  rw [in_eq, in_eq, in_eq]
  apply vi_inj
  apply BitVec.eq_of_toNat_eq
  show ((nI a).toBitVec ^^^ (nI b).toBitVec).toNat = _
  rw [BitVec.toNat_xor, vi_tn ha, vi_tn hb, vi_tn (Nat.xor_lt_two_pow ha hb)]
theorem m_orr {a b : Nat} (ha : a < 2 ^ 32) (hb : b < 2 ^ 32) : Int32.ofInt (a : Int) ||| Int32.ofInt (b : Int) = Int32.ofInt ((a ||| b : Nat) : Int) := by
  rw [in_eq, in_eq, in_eq]
  apply vi_inj
  apply BitVec.eq_of_toNat_eq
  show ((nI a).toBitVec ||| (nI b).toBitVec).toNat = _
  rw [BitVec.toNat_or, vi_tn ha, vi_tn hb, vi_tn (Nat.or_lt_two_pow ha hb)]
def mk16 (b : Bool) : Nat := if b then 65535 else 0
theorem mk16_lt (b : Bool) : mk16 b < 65536 := by cases b <;> decide
theorem mk16_bit (b : Bool) (i : Nat) : (mk16 b).testBit i = (decide (i < 16) && b) := by
  cases b with
  | false => show (0 : Nat).testBit i = _; rw [Nat.zero_testBit, Bool.and_false]
  | true => show (2 ^ 16 - 1).testBit i = _; rw [Nat.testBit_two_pow_sub_one, Bool.and_true]
theorem d16_bit (x k i : Nat) : (d16 x k).testBit i = (decide (i < 16) && x.testBit (16 * k + i)) := by
  unfold d16
  rw [show (65536 : Nat) = 2 ^ 16 from rfl, Nat.testBit_mod_two_pow, ← Nat.pow_mul, Nat.testBit_div_two_pow, Nat.add_comm]
theorem cb_part (m : Int32) (a b : Bool) (x y k : Nat) : gop m (d16 x k ^^^ mk16 a) (d16 y k ^^^ mk16 b) ^^^ mk16 (gg m a b) = d16 (cbn m a b x y) k := by
  apply Nat.eq_of_testBit_eq
  intro i
  rw [Nat.testBit_xor, gop_bit, Nat.testBit_xor, Nat.testBit_xor, mk16_bit, mk16_bit, mk16_bit, d16_bit, d16_bit, d16_bit, cbn_bit]
  by_cases h : i < 16
  · rw [decide_eq_true h]; simp only [Bool.true_and]
  · rw [decide_eq_false h]; simp only [Bool.false_and, Bool.false_xor, gg_ff]
theorem gop_mk16 (m : Int32) (a b : Bool) : gop m (mk16 a) (mk16 b) = mk16 (gg m a b) := by
  apply Nat.eq_of_testBit_eq
  intro i
  rw [gop_bit, mk16_bit, mk16_bit, mk16_bit]
  by_cases h : i < 16
  · rw [decide_eq_true h]; simp only [Bool.true_and]
  · rw [decide_eq_false h]; simp only [Bool.false_and, gg_ff]
section C4
variable {o0 o o' : xO} {Y c : Nat} {z : Nat → Int} {t p : List Int32}
theorem c_bits16 {a n : Nat} {x : Int} {sw : Int32} (h : Mn o a 1200 x.natAbs) (hn : n16 x.natAbs ≤ n) (hn2 : n < 1200) (hs : sw.toInt = x.sign) :
    Cv y_M_bits [.ref a, .int sw, .int (Int32.ofInt (n : Nat))] o (fun o' => Fr [(a, 1)] o o' ∧ xi o' a 0 = Int32.ofInt (n : Nat) ∧ ∀ k, k < n → xi o' a (k + 1) = Int32.ofInt ((d16 (core x) k ^^^ mk16 (neg x) : Nat) : Int)) := by
  have hka := h.1
  have h76 : ∀ w l3, Fr [(a, 1)] o w → (∀ k, k < n → xi w a (k + 1) = Int32.ofInt ((d16 (core x) k ^^^ mk16 (neg x) : Nat) : Int)) → RW (fun r o' => r = .inl none ∧ (Fr [(a, 1)] o o' ∧ xi o' a 0 = Int32.ofInt (n : Nat) ∧ ∀ k, k < n → xi o' a (k + 1) = Int32.ofInt ((d16 (core x) k ^^^ mk16 (neg x) : Nat) : Int))) y_M_bits (xbk y_M_bits 76) [.ref a, .int sw, .int (Int32.ofInt (n : Nat)), l3] [] w := by
    intro w l3 hf hk
    refine RW.ps 3 rfl ?_
    refine RW.ist (k := 0) (hf.k.trans hka) i0n (by omega) ?_
    exact RW.re rfl rfl ⟨rfl, hf.pi1, xpi_same, fun k hkn => (xpi_ne (fun _ => by omega)).trans (hk k hkn)⟩
  have h56 : neg x = true → ∀ q j (jw : Int32) w, j + q = n → jw.toInt = ((j + 1 : Nat) : Int) → Fr [(a, 1)] o w → (∀ k, k < j → xi w a (k + 1) = Int32.ofInt ((d16 (core x) k ^^^ mk16 (neg x) : Nat) : Int)) → (∀ k, j ≤ k → k < n → xi w a (k + 1) = Int32.ofInt (d16 (core x) k : Nat)) → RW (fun r o' => r = .inl none ∧ (Fr [(a, 1)] o o' ∧ xi o' a 0 = Int32.ofInt (n : Nat) ∧ ∀ k, k < n → xi o' a (k + 1) = Int32.ofInt ((d16 (core x) k ^^^ mk16 (neg x) : Nat) : Int))) y_M_bits (xbk y_M_bits 56) [.ref a, .int sw, .int (Int32.ofInt (n : Nat)), .int jw] [] w := by
    intro hneg q
    induction q with
    | zero =>
      intro j jw w hj hjw hf h1 h2
      refine RW.ps 2 rfl ?_
      refine RW.icm (fun _ => ?_) (fun k => ?_)
      rotate_left
      · rw [xi_gt, iu (by omega), hjw] at k; omega
      exact h76 w _ hf (fun k hk => h1 k (by omega))
    | succ q ih =>
      intro j jw w hj hjw hf h1 h2
      have hd := d16_lt (core x) j
      refine RW.ps 2 rfl ?_
      refine RW.icm (fun k => ?_) (fun _ => ?_)
      · rw [xi_gt, iu (by omega), hjw] at k; omega
      refine RW.ps 4 rfl ?_
      refine RW.ia (hf.k.trans hka) hjw (by omega) ?_
      rw [h2 j (Nat.le_refl _) (by omega)]
      refine RW.ps 2 rfl ?_
      refine RW.top (congrArg Value.int (m_xor (a := d16 (core x) j) (b := 65535) (by omega) (by decide))) ?_
      refine RW.ist (hf.k.trans hka) hjw (by omega) ?_
      refine RW.ps 1 rfl ?_
      refine RW.go ?_
      refine ih (j + 1) (jw + 1) _ (by omega) (i_succ hjw (by omega)) hf.pi1 (fun k hk => ?_) (fun k hk1 hk2 => (xpi_ne (fun _ => by omega)).trans (h2 k (by omega) hk2))
      by_cases hkj : k = j
      · subst hkj; rw [xpi_same, hneg]; rfl
      · rw [xpi_ne (fun _ => by omega)]; exact h1 k (by omega)
  -- zeros behind the parts
  have zer : ∀ (X b : Nat) (Q : xO → Prop), (b = 6 ∨ b = 39) → X < 65536 ^ n → (∀ w jw, Fr [(a, 1)] o w → (∀ k, k < n → xi w a (k + 1) = Int32.ofInt (d16 X k : Nat)) → RW (fun r o' => r = .inl none ∧ Q o') y_M_bits (xbk y_M_bits (if b = 6 then 21 else 54)) [.ref a, .int sw, .int (Int32.ofInt (n : Nat)), .int jw] [] w) →
      ∀ q j (jw : Int32) w, j + q = n → jw.toInt = ((j + 1 : Nat) : Int) → Fr [(a, 1)] o w → n16 X ≤ j → (∀ k, k < j → xi w a (k + 1) = Int32.ofInt (d16 X k : Nat)) → RW (fun r o' => r = .inl none ∧ Q o') y_M_bits (xbk y_M_bits b) [.ref a, .int sw, .int (Int32.ofInt (n : Nat)), .int jw] [] w := by
    intro X b Q hb hX hk q
    induction q with
    | zero =>
      intro j jw w hj hjw hf hnj h1
      have := hk w jw hf (fun k hk => h1 k (by omega))
      rcases hb with e | e
      · subst e
        refine RW.ps 2 rfl ?_
        refine RW.icm (fun _ => this) (fun k => ?_)
        rw [xi_gt, iu (by omega), hjw] at k; omega
      · subst e
        refine RW.ps 2 rfl ?_
        refine RW.icm (fun _ => this) (fun k => ?_)
        rw [xi_gt, iu (by omega), hjw] at k; omega
    | succ q ih =>
      intro j jw w hj hjw hf hnj h1
      have hnext : ∀ lv, lv = [.ref a, .int sw, .int (Int32.ofInt (n : Nat)), .int (jw + 1)] → RW (fun r o' => r = .inl none ∧ Q o') y_M_bits (xbk y_M_bits b) lv [] (xpi w a (j + 1) 0) := by
        intro lv hlv
        subst hlv
        refine ih (j + 1) (jw + 1) _ (by omega) (i_succ hjw (by omega)) hf.pi1 (by omega) (fun k hk => ?_)
        by_cases hkj : k = j
        · subst hkj; rw [xpi_same, d16_zero' hnj]; rfl
        · rw [xpi_ne (fun _ => by omega)]; exact h1 k (by omega)
      rcases hb with e | e
      · subst e
        refine RW.ps 2 rfl ?_
        refine RW.icm (fun k => ?_) (fun _ => ?_)
        · rw [xi_gt, iu (by omega), hjw] at k; omega
        refine RW.ps 3 rfl ?_
        refine RW.ist (k := j + 1) (hf.k.trans hka) hjw (by omega) ?_
        refine RW.ps 1 rfl ?_
        refine RW.go ?_
        exact hnext _ rfl
      · subst e
        refine RW.ps 2 rfl ?_
        refine RW.icm (fun k => ?_) (fun _ => ?_)
        · rw [xi_gt, iu (by omega), hjw] at k; omega
        refine RW.ps 3 rfl ?_
        refine RW.ist (k := j + 1) (hf.k.trans hka) hjw (by omega) ?_
        refine RW.ps 1 rfl ?_
        refine RW.go ?_
        exact hnext _ rfl
  have hXl : x.natAbs < 65536 ^ n := n16_le.mp hn
  refine RW.ps 2 rfl ?_
  refine RW.ia hka i0n (by omega) ?_
  rw [h.2.2.2.1]
  refine RW.ps 2 rfl ?_
  refine RW.top (congrArg Value.int (is1 (n16 x.natAbs))) ?_
  refine RW.ps 1 rfl ?_
  refine RW.weak (lv0 := [.ref a, .int sw, .int (Int32.ofInt (n : Nat)), .int (Int32.ofInt ((n16 x.natAbs + 1 : Nat) : Int))]) ⟨Or.inr rfl, Or.inr rfl, Or.inr rfl, Or.inr rfl, trivial⟩ ?_
  refine RW.sk [] rfl ?_
  refine zer x.natAbs 6 _ (Or.inl rfl) hXl ?_ (n - n16 x.natAbs) (n16 x.natAbs) _ o (by omega) (iu (by omega)) (Fr.refl _ _) (Nat.le_refl _) h.2.2.2.2
  intro w jw hf hd
  show RW _ y_M_bits (xbk y_M_bits 21) _ [] w
  refine RW.ps 1 rfl ?_
  rcases sgn_cases x with ⟨hs1, hs2⟩ | ⟨hs1, hs2⟩
  · refine RW.ifc (fun k => ?_) (fun _ => ?_)
    · rw [xi_ge, hs, i0, Int.sign_eq_neg_one_of_neg hs2] at k; omega
    have hcx : x.natAbs = core x + 1 := by unfold core; rw [hs1, if_pos rfl]; omega
    refine RW.ps 3 rfl ?_
    refine RW.ist (k := 0) (hf.k.trans hka) i0n (by omega) ?_
    have m2 : Mu (xpi w a 0 (Int32.ofInt (n : Nat))) a 1200 n (core x + 1) := ⟨hf.k.trans hka, hn2, by rw [← hcx]; exact hXl, xpi_same, fun k hk => by rw [xpi_ne (fun _ => by omega), ← hcx]; exact hd k hk⟩
    refine RW.ps 1 rfl ?_
    refine RW.cv rfl rfl rfl rfl rfl (c_takeOne m2 (by decide)) ?_
    intro o2 ⟨f2, m3⟩
    have hf2 := hf.pi1.trans f2
    have hcl : core x < 65536 ^ n := by omega
    have hcn := n16_le.mpr hcl
    refine RW.ps 2 rfl ?_
    refine RW.ia m3.1 i0n (by omega) ?_
    rw [m3.2.2.2.1]
    refine RW.ps 2 rfl ?_
    refine RW.top (congrArg Value.int (is1 (n16 (core x)))) ?_
    refine RW.ps 1 rfl ?_
    refine RW.weak (lv0 := [.ref a, .int sw, .int (Int32.ofInt (n : Nat)), .int (Int32.ofInt ((n16 (core x) + 1 : Nat) : Int))]) ⟨Or.inr rfl, Or.inr rfl, Or.inr rfl, Or.inr rfl, trivial⟩ ?_
    refine RW.sk [] rfl ?_
    refine zer (core x) 39 _ (Or.inr rfl) hcl ?_ (n - n16 (core x)) (n16 (core x)) _ o2 (by omega) (iu (by omega)) hf2 (Nat.le_refl _) m3.2.2.2.2
    intro w2 jw2 hf3 hd3
    show RW _ y_M_bits (xbk y_M_bits 54) _ [] w2
    refine RW.ps 2 rfl ?_
    refine RW.weak (lv0 := [.ref a, .int sw, .int (Int32.ofInt (n : Nat)), .int 1]) ⟨Or.inr rfl, Or.inr rfl, Or.inr rfl, Or.inr rfl, trivial⟩ ?_
    refine RW.sk [] rfl ?_
    exact h56 hs1 n 0 1 w2 (Nat.zero_add _) rfl hf3 (fun k hk => absurd hk (Nat.not_lt_zero k)) (fun k _ hk => hd3 k hk)
  · refine RW.ifc (fun _ => ?_) (fun k => ?_)
    rotate_left
    · exact absurd (show xcd .ge sw 0 by rw [i_of hs]; exact sign_lt.mpr hs2) k
    have hcx : core x = x.natAbs := by unfold core; rw [hs1, if_neg Bool.false_ne_true]
    refine h76 w _ hf (fun k hk => ?_)
    rw [hd k hk, hcx, hs1]
    show _ = Int32.ofInt ((d16 x.natAbs k ^^^ 0 : Nat) : Int)
    rw [Nat.xor_zero]
end C4
