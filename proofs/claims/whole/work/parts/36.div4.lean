/-! DIVISION: the whole run. -/
theorem sRow_swap {o : xO} {r q u v : Nat} {f g : Nat → Int32} (h : r + 2 ≤ q ∨ q + 2 ≤ r) : sRow (sRow o r f u) q g v = sRow (sRow o q g v) r f u := by
  refine xO_ext (by rfl) ?_ ?_ ?_
  · funext b
    show (if b = q + 1 then g else if b = r + 1 then f else o.2.1 b) = (if b = r + 1 then f else if b = q + 1 then g else o.2.1 b)
    by_cases h1 : b = q + 1
    · rw [if_pos h1, if_neg (by omega), if_pos h1]
    · rw [if_neg h1, if_neg h1]
  · funext b j
    show (if b = q ∧ j = 1 then _ else if b = r ∧ j = 1 then _ else o.2.2.1 b j) = (if b = r ∧ j = 1 then _ else if b = q ∧ j = 1 then _ else o.2.2.1 b j)
    by_cases h1 : b = q ∧ j = 1
    · rw [if_pos h1, if_neg (by omega), if_pos h1]
    · rw [if_neg h1, if_neg h1]
  · rfl
theorem up1 (R i : Nat) : R * 2147483648 / 2147483648 ^ i = R / 2147483648 ^ i * 2147483648 + pd R i := by
  cases i with
  | zero => rw [Nat.pow_zero, Nat.div_one, Nat.div_one]; exact (Nat.add_zero _).symm
  | succ j => rw [Nat.pow_succ, Nat.mul_div_mul_right _ _ (by decide), ← Nat.pow_succ]; exact dg_up R j
theorem est_use {R S n k : Nat} (hS : S < 2147483648 ^ (n + 1)) (ht : 1073741824 ≤ dg S n) (hR : R < S * 2147483648 ^ (k + 1)) : ∀ e, e = estN (dg R (k + n + 1) * 2147483648 + dg R (k + n)) (dg S n) (pd R (k + n)) (pd S n) → R < (e + 1) * (S * 2147483648 ^ k) ∧ (e - 1) * (S * 2147483648 ^ k) ≤ R ∧ e < 2147483648 := by
  intro e he
  have hPk := pow31_pos k
  have hPn := pow31_pos n
  have hSn : S / 2147483648 ^ n = dg S n := by
    refine (Nat.mod_eq_of_lt ?_).symm
    rw [Nat.div_lt_iff_lt_mul hPn, Nat.mul_comm, ← Nat.pow_succ]; exact hS
  have hRl : R < 2147483648 ^ (k + n + 1 + 1) := by
    have h1 : S * 2147483648 ^ (k + 1) ≤ 2147483648 ^ (n + 1) * 2147483648 ^ (k + 1) := Nat.mul_le_mul_right _ (Nat.le_of_lt hS)
    rw [← Nat.pow_add, show n + 1 + (k + 1) = k + n + 1 + 1 by omega] at h1
    omega
  have hRn : R / 2147483648 ^ (k + n) = dg R (k + n + 1) * 2147483648 + dg R (k + n) := by
    rw [dg_up R (k + n)]
    congr 2
    refine (Nat.mod_eq_of_lt ?_).symm
    rw [Nat.div_lt_iff_lt_mul (pow31_pos _), Nat.mul_comm, ← Nat.pow_succ]; exact hRl
  have hU := up1 R (k + n)
  have hV := up1 S n
  rw [hRn] at hU
  rw [hSn] at hV
  have hU1 := Nat.div_mul_le_self (R * 2147483648) (2147483648 ^ (k + n))
  have hU2 := Nat.lt_mul_of_div_lt (Nat.lt_succ_self (R * 2147483648 / 2147483648 ^ (k + n))) (pow31_pos (k + n))
  have hV1 := Nat.div_mul_le_self (S * 2147483648) (2147483648 ^ n)
  have hV2 := Nat.lt_mul_of_div_lt (Nat.lt_succ_self (S * 2147483648 / 2147483648 ^ n)) hPn
  refine est (U := R * 2147483648 / 2147483648 ^ (k + n)) (V := S * 2147483648 / 2147483648 ^ n) (P := 2147483648 ^ (k + n)) hU1 hU2 ?_ ?_ hU (pd_lt _ _) hV (pd_lt _ _) ht ?_ rfl ?_
  · rw [Nat.pow_add, Nat.mul_right_comm, Nat.mul_comm (2147483648 ^ k), ← Nat.mul_assoc]
    exact Nat.mul_le_mul_right _ hV1
  · rw [Nat.pow_add, Nat.mul_right_comm, Nat.mul_comm (2147483648 ^ k), ← Nat.mul_assoc]
    refine Nat.mul_lt_mul_of_pos_right ?_ hPk
    exact hV2
  · rw [Nat.mul_assoc, ← Nat.pow_succ]; exact hR
  · rw [he, hU, hV]; rfl
/-- the limb at a place, and what is left -/
theorem div_place {R0 S R k e : Nat} (hS0 : 0 < S) (hR : R = R0 % (S * 2147483648 ^ (k + 1))) (h1 : R < (e + 1) * (S * 2147483648 ^ k)) (h2 : (e - 1) * (S * 2147483648 ^ k) ≤ R) :
    (e * S ≤ R / 2147483648 ^ k → e = dg (R0 / S) k ∧ Win R k (R / 2147483648 ^ k - e * S) = R0 % (S * 2147483648 ^ k)) ∧
    (¬ e * S ≤ R / 2147483648 ^ k → 0 < e ∧ e - 1 = dg (R0 / S) k ∧ (e - 1) * S ≤ R / 2147483648 ^ k ∧ Win R k (R / 2147483648 ^ k - (e - 1) * S) = R0 % (S * 2147483648 ^ k)) := by
  have hP := pow31_pos k
  have a1 : R / 2147483648 ^ k < (e + 1) * S := by rw [Nat.div_lt_iff_lt_mul hP, Nat.mul_assoc]; exact h1
  have a2 : (e - 1) * S ≤ R / 2147483648 ^ k := by rw [Nat.le_div_iff_mul_le hP, Nat.mul_assoc]; exact h2
  have hdig : R / 2147483648 ^ k / S = dg (R0 / S) k := by
    have h3 : R / 2147483648 ^ k / S = R / (S * 2147483648 ^ k) := by rw [Nat.div_div_eq_div_mul, Nat.mul_comm]
    rw [h3, hR, Nat.pow_succ, ← Nat.mul_assoc, Nat.mod_mul_right_div_self]
    unfold dg
    rw [Nat.div_div_eq_div_mul]
  have hmod : R % (S * 2147483648 ^ k) = R0 % (S * 2147483648 ^ k) := by
    rw [hR]
    exact Nat.mod_mod_of_dvd _ (by rw [Nat.pow_succ, ← Nat.mul_assoc]; exact Nat.dvd_mul_right _ _)
  have hw : Win R k (R / 2147483648 ^ k % S) = R0 % (S * 2147483648 ^ k) := by
    rw [← hmod, Nat.mul_comm S, Nat.mod_mul]
    unfold Win
    rw [Nat.mul_comm (2147483648 ^ k)]
  have hq : ∀ q, q * S ≤ R / 2147483648 ^ k → R / 2147483648 ^ k < (q + 1) * S → q = dg (R0 / S) k ∧ Win R k (R / 2147483648 ^ k - q * S) = R0 % (S * 2147483648 ^ k) := by
    intro q b1 b2
    have b3 : R / 2147483648 ^ k / S = q := Nat.div_eq_of_lt_le b1 b2
    have b4 : R / 2147483648 ^ k % S = R / 2147483648 ^ k - q * S := by
      have := Nat.div_add_mod (R / 2147483648 ^ k) S
      rw [b3, Nat.mul_comm] at this
      omega
    rw [← hdig, b3, ← b4]
    exact ⟨rfl, hw⟩
  refine ⟨fun h => hq e h a1, fun h => ?_⟩
  have he : 0 < e := by
    rcases Nat.eq_zero_or_pos e with z | z
    · subst z; rw [Nat.zero_mul] at h; omega
    · exact z
  obtain ⟨c1, c2⟩ := hq (e - 1) a2 (by rw [show e - 1 + 1 = e by omega]; omega)
  exact ⟨he, c1, a2, c2⟩
theorem nbit_shift {y p : Nat} (hy : 0 < y) : nbit (y * 2 ^ p) = nbit y + p := by
  have e : y * 2 ^ p / 2 ^ p = y := Nat.mul_div_cancel _ (Nat.two_pow_pos p)
  rw [nbit_div (c := p) (by rw [e]; omega), e, Nat.add_comm]
theorem c_divide {o : xO} {d a b x y vq vr vs : Nat} (hd : IsDv o d) (hq : Rn o (d + 1) vq) (hr : Rn o (d + 3) vr) (hs : Rn o (d + 5) vs) (ha : Rn o a x) (hb : Rn o b y) (hy : 0 < y) (hda : a + 2 ≤ d ∨ d + 7 ≤ a) (hdb : b + 2 ≤ d ∨ d + 7 ≤ b) (hnx : nl x ≤ 538) (hny : nl y ≤ 538) :
    Cv y_Divider_run [.ref d, .ref a, .ref b] o (fun o' => Fr [(d + 1, 6)] o o' ∧ Rn o' (d + 1) (x / y) ∧ Rn o' (d + 3) (x % y) ∧ Rx o' (d + 5)) := by
  have hny0 : 0 < nl y := by rcases Nat.eq_zero_or_pos (nl y) with h | h; exact absurd (nl_zero.mp h) (by omega); exact h
  obtain ⟨n, hn⟩ : ∃ n, nl y = n + 1 := ⟨nl y - 1, by omega⟩
  have hnb : nbit y ≤ nl y * 31 := by unfold nl; omega
  have hnb2 : nl y * 31 ≤ nbit y + 30 := by unfold nl; omega
  obtain ⟨p, hp⟩ : ∃ p, nl y * 31 = nbit y + p := ⟨nl y * 31 - nbit y, by omega⟩
  have hp30 : p ≤ 30 := by omega
  have h2p : 2 ^ p ≤ 2 ^ 30 := Nat.pow_le_pow_right (by decide) hp30
  have hxB : x * 2 ^ p < BIG := by
    have h1 : x < 2147483648 ^ 538 := nl_le.mp hnx
    have h2 : x * 2 ^ p < 2147483648 ^ 538 * 2147483648 := Nat.mul_lt_mul'' h1 (by omega)
    rw [← Nat.pow_succ] at h2
    exact h2
  have hyB : y * 2 ^ p < BIG := by
    have h1 : y < 2147483648 ^ 538 := nl_le.mp hny
    have h2 : y * 2 ^ p < 2147483648 ^ 538 * 2147483648 := Nat.mul_lt_mul'' h1 (by omega)
    rw [← Nat.pow_succ] at h2
    exact h2
  have hSb : nbit (y * 2 ^ p) = (n + 1) * 31 := by rw [nbit_shift hy, ← hp, hn]
  have hnS : nl (y * 2 ^ p) = n + 1 := by
    have h1 : nl (y * 2 ^ p) = (nbit (y * 2 ^ p) + 30) / 31 := rfl
    omega
  have hQ : x * 2 ^ p / (y * 2 ^ p) = x / y := Nat.mul_div_mul_right _ _ (Nat.two_pow_pos p)
  have hRm : x * 2 ^ p % (y * 2 ^ p) / 2 ^ p = x % y := by rw [Nat.mul_mod_mul_right, Nat.mul_div_cancel _ (Nat.two_pow_pos p)]
  have hS0 : 0 < y * 2 ^ p := Nat.mul_pos hy (Nat.two_pow_pos p)
  generalize hSd : y * 2 ^ p = S at hyB hSb hnS hQ hRm hS0
  generalize hRd : x * 2 ^ p = R0 at hxB hQ hRm
  have hSl : S < 2147483648 ^ (n + 1) := nl_le.mp (by omega)
  have hSge : 1073741824 * 2147483648 ^ n ≤ S := by
    rcases Nat.lt_or_ge S (1073741824 * 2147483648 ^ n) with h | h
    · exfalso
      rw [b31, show (1073741824 : Nat) = 2 ^ 30 from rfl, ← Nat.pow_add] at h
      have := nbit_le.mpr h
      omega
    · exact h
  have hPn := pow31_pos n
  have hSn : S / 2147483648 ^ n = dg S n := by
    refine (Nat.mod_eq_of_lt ?_).symm
    rw [Nat.div_lt_iff_lt_mul hPn, Nat.mul_comm, ← Nat.pow_succ]; exact hSl
  have ht : 1073741824 ≤ dg S n := by
    rw [← hSn, Nat.le_div_iff_mul_le hPn]; exact hSge
  have hSge1 : 2147483648 ^ n ≤ S := by omega
  have hnR := big_nl hxB
  have hRl := nl_le.mp (Nat.le_refl (nl R0))
  have hR0 : R0 < S * 2147483648 ^ (nl R0 - n) := by
    have h1 : 2147483648 ^ n * 2147483648 ^ (nl R0 - n) ≤ S * 2147483648 ^ (nl R0 - n) := Nat.mul_le_mul_right _ hSge1
    rw [← Nat.pow_add] at h1
    have h2 : 2147483648 ^ nl R0 ≤ 2147483648 ^ (n + (nl R0 - n)) := Nat.pow_le_pow_right (by decide) (by omega)
    omega
  have hQl : nl (R0 / S) ≤ nl R0 - n := by
    rw [nl_le, Nat.div_lt_iff_lt_mul hS0, Nat.mul_comm]; exact hR0
  have hQB : R0 / S < BIG := Nat.lt_of_le_of_lt (Nat.div_le_self _ _) hxB
  refine RW.ps 1 rfl ?_
  refine RW.gf hb.1.1 hb.2.2.2 ?_
  refine RW.ps 3 rfl ?_
  refine RW.cp rfl rfl (xrc_v rfl rfl hb.1.1) rfl rfl (c_bits hb) ?_
  refine RW.ps 1 rfl ?_
  refine RW.top (congrArg Value.int ((show Int32.ofInt (nl y : Nat) * 31 - Int32.ofInt (nbit y : Nat) = Int32.ofInt (p : Nat) by rw [show (31 : Int32) = Int32.ofInt 31 by decide, ii_mul, ii_sub]; congr 1; omega))) ?_
  refine RW.ps 2 rfl ?_
  refine RW.gf hd.1 hd.2.1 ?_
  refine RW.cv rfl rfl (xrc_v rfl rfl hq.1.1) rfl rfl (c_clear hq) ?_
  intro o1 ho1
  have f1 : Fr [(d + 1, 6)] o o1 := by subst ho1; exact Fr.up Fr.num (fun b hb => ⟨by have := hb.1; dsimp only at this ⊢; omega, trivial⟩)
  have hq1 : Rn o1 (d + 1) 0 := by subst ho1; exact Rn.num hq (Nat.pow_pos (by decide))
  have hr1 : Rn o1 (d + 3) vr := by subst ho1; exact hr.ne (by omega)
  have hs1 : Rn o1 (d + 5) vs := by subst ho1; exact hs.ne (by omega)
  have ha1 : Rn o1 a x := by subst ho1; exact ha.ne (by omega)
  have hb1 : Rn o1 b y := by subst ho1; exact hb.ne (by omega)
  clear ho1
  have hd1 : IsDv o1 d := ⟨by rw [f1.k]; exact hd.1, by rw [f1.f ⟨by dsimp only; omega, trivial⟩]; exact hd.2.1, by rw [f1.f ⟨by dsimp only; omega, trivial⟩]; exact hd.2.2.1, by rw [f1.f ⟨by dsimp only; omega, trivial⟩]; exact hd.2.2.2⟩
  refine RW.weak (lv0 := [.ref d, .ref a, .ref b, .int (Int32.ofInt (p : Nat)), xj, xj, xj]) ⟨Or.inr rfl, Or.inr rfl, Or.inr rfl, Or.inr rfl, Or.inl rfl, Or.inl rfl, Or.inl rfl, trivial⟩ ?_
  refine RW.sk [] rfl ?_
  refine RW.ps 1 rfl ?_
  refine RW.gf hd1.1 hd1.2.2.1 ?_
  refine RW.ps 2 rfl ?_
  refine RW.cv rfl rfl (xrc_v rfl rfl hr1.1.1) rfl rfl (c_becomeRaised hr1 ha1 (by omega) (iu (by omega)) (by omega) (by rw [hRd]; exact hxB) (by omega)) ?_
  intro o2 ho2
  rw [hRd] at ho2
  have f2 : Fr [(d + 1, 6)] o o2 := by subst ho2; exact f1.trans (Fr.up Fr.num (fun b hb => ⟨by have := hb.1; dsimp only at this ⊢; omega, trivial⟩))
  have hq2 : Rn o2 (d + 1) 0 := by subst ho2; exact hq1.ne (by omega)
  have hr2 : Rn o2 (d + 3) R0 := by subst ho2; exact Rn.num hr1 hxB
  have hs2 : Rn o2 (d + 5) vs := by subst ho2; exact hs1.ne (by omega)
  have hb2 : Rn o2 b y := by subst ho2; exact hb1.ne (by omega)
  clear ho2
  have hd2 : IsDv o2 d := ⟨by rw [f2.k]; exact hd.1, by rw [f2.f ⟨by dsimp only; omega, trivial⟩]; exact hd.2.1, by rw [f2.f ⟨by dsimp only; omega, trivial⟩]; exact hd.2.2.1, by rw [f2.f ⟨by dsimp only; omega, trivial⟩]; exact hd.2.2.2⟩
  refine RW.ps 1 rfl ?_
  refine RW.gf hd2.1 hd2.2.2.2 ?_
  refine RW.ps 2 rfl ?_
  refine RW.cv rfl rfl (xrc_v rfl rfl hs2.1.1) rfl rfl (c_becomeRaised hs2 hb2 (by omega) (iu (by omega)) (by omega) (by rw [hSd]; exact hyB) (by omega)) ?_
  intro o3 ho3
  rw [hSd] at ho3
  have f3 : Fr [(d + 1, 6)] o o3 := by subst ho3; exact f2.trans (Fr.up Fr.num (fun b hb => ⟨by have := hb.1; dsimp only at this ⊢; omega, trivial⟩))
  have hq3 : Rn o3 (d + 1) 0 := by subst ho3; exact hq2.ne (by omega)
  have hr3 : Rn o3 (d + 3) R0 := by subst ho3; exact hr2.ne (by omega)
  have hs3 : Rn o3 (d + 5) S := by subst ho3; exact Rn.num hs2 hyB
  clear ho3
  have hd3 : IsDv o3 d := ⟨by rw [f3.k]; exact hd.1, by rw [f3.f ⟨by dsimp only; omega, trivial⟩]; exact hd.2.1, by rw [f3.f ⟨by dsimp only; omega, trivial⟩]; exact hd.2.2.1, by rw [f3.f ⟨by dsimp only; omega, trivial⟩]; exact hd.2.2.2⟩
  refine RW.ps 1 rfl ?_
  refine RW.gf hd3.1 hd3.2.2.1 ?_
  refine RW.gf hr3.1.1 hr3.2.2.2 ?_
  refine RW.ps 1 rfl ?_
  refine RW.gf hd3.1 hd3.2.2.2 ?_
  refine RW.gf hs3.1.1 hs3.2.2.2 ?_
  refine RW.ps 2 rfl ?_
  have hdv : ∀ f v g w, IsDv (sRow (sRow o3 (d + 1) f v) (d + 3) g w) d := fun f v g w => ⟨hd3.1, ((sRow_f_ne (by omega) 0).trans (sRow_f_ne (by omega) 0)).trans hd3.2.1, ((sRow_f_ne (by omega) 1).trans (sRow_f_ne (by omega) 1)).trans hd3.2.2.1, ((sRow_f_ne (by omega) 2).trans (sRow_f_ne (by omega) 2)).trans hd3.2.2.2⟩
  have hdv1 : ∀ f v, IsDv (sRow o3 (d + 1) f v) d := fun f v => ⟨hd3.1, (sRow_f_ne (by omega) 0).trans hd3.2.1, (sRow_f_ne (by omega) 1).trans hd3.2.2.1, (sRow_f_ne (by omega) 2).trans hd3.2.2.2⟩
  have hsv1 : ∀ f v, Rn (sRow o3 (d + 1) f v) (d + 5) S := fun f v => hs3.ne (by omega)
  have loop : ∀ (m : Nat) (kw : Int32), (kw.toInt = (m : Int) - 1 ∨ (m = 0 ∧ kw.toInt < 0)) → m + n ≤ max (nl R0) n → ∀ g v u lv5 w, v ≤ 540 → nl (R0 % (S * 2147483648 ^ m)) ≤ v → u ≤ 540 → ((m = nl R0 - n ∧ u = 0) ∨ nl R0 - n ≤ u) → g = my (R0 / S) 0 m → w = sRow (sRow o3 (d + 1) g u) (d + 3) (lm (R0 % (S * 2147483648 ^ m))) v →
      RW (fun r o' => r = .inl none ∧ (Fr [(d + 1, 6)] o o' ∧ Rn o' (d + 1) (x / y) ∧ Rn o' (d + 3) (x % y) ∧ Rx o' (d + 5))) y_Divider_run (xbk y_Divider_run 55) [.ref d, .ref a, .ref b, .int (Int32.ofInt (p : Nat)), .int kw, lv5, xj] [] w := by
    intro m
    induction m with
    | zero =>
      intro kw hk hm g v u lv5 w hv hv2 hu hu2 hg hw
      subst hw
      subst hg
      rw [my_0]
      refine RW.ps 1 rfl ?_
      refine RW.ifc (fun _ => ?_) (fun h1 => ?_)
      · refine RW.ps 1 rfl ?_
        refine RW.gf (hdv _ _ _ _).1 (hdv _ _ _ _).2.1 ?_
        rw [Nat.pow_zero, Nat.mul_one] at hv2 ⊢
        rw [sRow_swap (by omega)]
        have hr5 : IsRow (sRow o3 (d + 3) (lm (R0 % S)) v) (d + 1) := IsRow.s hq3.1
        refine RW.cv rfl rfl (xrc_v rfl rfl (IsRow.s hr5).1) rfl rfl (c_trim hr5 hQB (u - nl (R0 / S)) u (by omega) hu) ?_
        intro o5 ho5
        rw [sNum, sRow_swap (by omega)] at ho5
        subst ho5
        refine RW.ps 1 rfl ?_
        refine RW.gf (hdv _ _ _ _).1 (hdv _ _ _ _).2.2.1 ?_
        refine RW.ps 1 rfl ?_
        have hrow : IsRow (sRow o3 (d + 1) (lm (R0 / S)) (nl (R0 / S))) (d + 3) := IsRow.s hr3.1
        have hRB : R0 % S < BIG := Nat.lt_of_le_of_lt (Nat.mod_le _ _) hxB
        refine RW.cv rfl rfl (xrc_v rfl rfl (IsRow.s hrow).1) rfl rfl (c_lowerU hrow hRB hv2 hv (iu (by omega)) (by omega)) ?_
        intro o6 ho6
        rw [hRm] at ho6
        have hm2 : x % y < BIG := Nat.lt_of_le_of_lt (Nat.mod_le _ _) ha.2.1
        refine RW.re rfl rfl ⟨rfl, ?_, ?_, ?_, S, ?_⟩
        · subst ho6
          exact (f3.trans (Fr.up Fr.row (fun b hb => ⟨by have := hb.1; dsimp only at this ⊢; omega, trivial⟩))).trans (Fr.up Fr.num (fun b hb => ⟨by have := hb.1; dsimp only at this ⊢; omega, trivial⟩))
        · subst ho6
          rw [← hQ]
          exact (Rn.set hq3.1 hQB).ne (by omega)
        · subst ho6
          exact Rn.set hrow hm2
        · subst ho6
          exact (hsv1 _ _).ne (by omega)
      · rw [xi_lt, i0] at h1; omega
    | succ k ih =>
      intro kw hk hm g v u lv5 w hv hv2 hu hu2 hg hw
      subst hw
      have hk : kw.toInt = (k : Int) := by omega
      have hkn : k + n + 1 ≤ nl R0 := by omega
      have hRlt : R0 % (S * 2147483648 ^ (k + 1)) < S * 2147483648 ^ (k + 1) := Nat.mod_lt _ (Nat.mul_pos hS0 (pow31_pos _))
      generalize hRr : R0 % (S * 2147483648 ^ (k + 1)) = R at hRlt hv2
      have hRl2 : R < 2147483648 ^ (k + (n + 2)) := by
        have h1 : S * 2147483648 ^ (k + 1) ≤ 2147483648 ^ (n + 1) * 2147483648 ^ (k + 1) := Nat.mul_le_mul_right _ (Nat.le_of_lt hSl)
        rw [← Nat.pow_add, show n + 1 + (k + 1) = k + (n + 2) by omega] at h1
        omega
      have hRB : R < BIG := by rw [← hRr]; exact Nat.lt_of_le_of_lt (Nat.mod_le _ _) hxB
      obtain ⟨q1, q2, q3⟩ := est_use hSl ht hRlt _ rfl
      obtain ⟨p1, p2⟩ := div_place hS0 hRr.symm q1 q2
      have hrow : IsRow (sRow o3 (d + 1) g u) (d + 3) := IsRow.s hr3.1
      have hrl : Rl (sRow (sRow o3 (d + 1) g u) (d + 3) (lm R) v) (d + 3) R := ⟨IsRow.s hrow, hRB, sRow_i⟩
      have hes := c_estimate (hdv g u (lm R) v) ((hsv1 g u).ne (by omega)) hrl hnS hk (by omega) ht
      generalize estN (dg R (k + n + 1) * 2147483648 + dg R (k + n)) (dg S n) (pd R (k + n)) (pd S n) = e at q1 q2 q3 p1 p2 hes
      have hput : ∀ e2 : Nat, e2 = dg (R0 / S) k → ∀ v2 o5, v2 ≤ 540 → k + n + 2 ≤ v2 → o5 = sRow (sRow o3 (d + 1) g u) (d + 3) (lm (R0 % (S * 2147483648 ^ k))) v2 →
          RW (fun r o' => r = .inl none ∧ (Fr [(d + 1, 6)] o o' ∧ Rn o' (d + 1) (x / y) ∧ Rn o' (d + 3) (x % y) ∧ Rx o' (d + 5))) y_Divider_run (xbk y_Divider_run 91) [.ref d, .ref a, .ref b, .int (Int32.ofInt (p : Nat)), .int kw, .long (Int64.ofInt (e2 : Nat)), xj] [] o5 := by
        intro e2 he2 v2 o5 hv3 hv4 ho5
        subst ho5
        have hdl := dg_lt (R0 / S) k
        refine RW.ps 1 rfl ?_
        refine RW.gf (hdv _ _ _ _).1 (hdv _ _ _ _).2.1 ?_
        refine RW.ps 2 rfl ?_
        have hr5 : IsRow (sRow o3 (d + 3) (lm (R0 % (S * 2147483648 ^ k))) v2) (d + 1) := IsRow.s hq3.1
        rw [sRow_swap (by omega)]
        refine RW.cv rfl rfl (xrc_v rfl rfl (IsRow.s hr5).1) rfl rfl (c_put (IsRow.s hr5) hk sRow_i sRow_f (by omega) hu) ?_
        intro o6 ho6
        rw [sRow_s, hg, my_step (by omega), sRow_swap (by omega)] at ho6
        refine RW.ps 1 rfl ?_
        refine RW.go ?_
        refine ih (kw + (-1)) (Or.inl (by rw [← Int32.sub_eq_add_neg]; exact i_subnat hk (by omega))) (by omega) (my (R0 / S) 0 k) v2 (max u (k + 1)) (.long (Int64.ofInt (e2 : Nat))) o6 hv3 ?_ (by omega) (Or.inr (by omega)) rfl ho6
        have h1 : R0 % (S * 2147483648 ^ k) < 2147483648 ^ (k + n + 2) := by
          have h2 : R0 % (S * 2147483648 ^ k) < S * 2147483648 ^ k := Nat.mod_lt _ (Nat.mul_pos hS0 (pow31_pos _))
          have h3 : S * 2147483648 ^ k ≤ 2147483648 ^ (n + 1) * 2147483648 ^ k := Nat.mul_le_mul_right _ (Nat.le_of_lt hSl)
          rw [← Nat.pow_add] at h3
          have h4 : 2147483648 ^ (n + 1 + k) ≤ 2147483648 ^ (k + n + 2) := Nat.pow_le_pow_right (by decide) (by omega)
          omega
        have := nl_le.mpr h1
        omega
      refine RW.ps 1 rfl ?_
      refine RW.ifc (fun h1 => ?_) (fun _ => ?_)
      · rw [xi_lt, hk, i0] at h1; omega
      refine RW.ps 2 rfl ?_
      refine RW.cp rfl rfl (xrc_v rfl rfl (hdv _ _ _ _).1) rfl rfl (hes) ?_
      refine RW.ps 4 rfl ?_
      refine RW.cq rfl rfl (xrc_v rfl rfl (hdv _ _ _ _).1) rfl rfl (c_takeScaled (hdv1 g u) (hsv1 g u) hrow hnS hk (by omega) hRl2 q3 hv) ?_
      intro ans o5 ⟨hans, v2, hv3, hv4, hv5, ho5⟩
      subst hans
      by_cases hle : e * S ≤ R / 2147483648 ^ k
      · obtain ⟨b1, b2⟩ := p1 hle
        rw [if_pos hle, b2] at ho5
        rw [decide_eq_true hle]
        refine RW.ifc (fun _ => ?_) (fun h2 => absurd (xi_ne.mpr (by decide)) h2)
        refine RW.weak (lv0 := [.ref d, .ref a, .ref b, .int (Int32.ofInt (p : Nat)), .int kw, .long (Int64.ofInt (e : Nat)), xj]) ⟨Or.inr rfl, Or.inr rfl, Or.inr rfl, Or.inr rfl, Or.inr rfl, Or.inr rfl, Or.inl rfl, trivial⟩ ?_
        refine RW.sk [] rfl ?_
        exact hput e b1 v2 o5 hv3 hv4 ho5
      · obtain ⟨b1, b2, b3, b4⟩ := p2 hle
        rw [if_neg hle] at ho5
        rw [decide_eq_false hle]
        refine RW.ifc (fun h2 => absurd (xi_ne.mp h2) (by decide)) (fun _ => ?_)
        have hRw : R / 2147483648 ^ k < 2147483648 ^ (n + 2) := by
          rw [Nat.div_lt_iff_lt_mul (pow31_pos k), Nat.mul_comm, ← Nat.pow_add]; exact hRl2
        have heS : e * S < 2147483648 ^ (n + 2) := by
          rw [Nat.pow_succ']
          exact Nat.mul_lt_mul'' q3 hSl
        have hes2 : e * S = (e - 1) * S + S := by rw [← Nat.succ_mul]; congr 1; omega
        subst ho5
        refine RW.weak (lv0 := [.ref d, .ref a, .ref b, .int (Int32.ofInt (p : Nat)), .int kw, .long (Int64.ofInt (e : Nat)), xj]) ⟨Or.inr rfl, Or.inr rfl, Or.inr rfl, Or.inr rfl, Or.inr rfl, Or.inr rfl, Or.inl rfl, trivial⟩ ?_
        refine RW.sk [] rfl ?_
        refine RW.ps 3 rfl ?_
        refine RW.top (congrArg Value.long ((show Int64.ofInt (e : Nat) - 1 = Int64.ofInt ((e - 1 : Nat) : Int) by rw [show (1 : Int64) = Int64.ofInt 1 by decide, li_sub]; congr 1; omega))) ?_
        refine RW.ps 3 rfl ?_
        refine RW.cv rfl rfl (xrc_v rfl rfl (hdv _ _ _ _).1) rfl rfl (c_putBack (hdv1 g u) (hsv1 g u) hrow hnS hk (by omega) (win_lt (by omega)) hv3) ?_
        intro o6 ⟨v3, hv6, hv7, hv8, ho6⟩
        rw [win_div, win_win, show R / 2147483648 ^ k + 2147483648 ^ (n + 2) - e * S + S = (R / 2147483648 ^ k - (e - 1) * S) + 2147483648 ^ (n + 2) by omega, Nat.add_mod_right, Nat.mod_eq_of_lt (by omega), b4] at ho6
        refine RW.weak (lv0 := [.ref d, .ref a, .ref b, .int (Int32.ofInt (p : Nat)), .int kw, .long (Int64.ofInt ((e - 1 : Nat) : Int)), xj]) ⟨Or.inr rfl, Or.inr rfl, Or.inr rfl, Or.inr rfl, Or.inr rfl, Or.inr rfl, Or.inl rfl, trivial⟩ ?_
        refine RW.sk [] rfl ?_
        exact hput (e - 1) b2 v3 o6 hv6 hv7 ho6
  have hRi : R0 % (S * 2147483648 ^ (nl R0 - n)) = R0 := Nat.mod_eq_of_lt hR0
  refine RW.weak (lv0 := [.ref d, .ref a, .ref b, .int (Int32.ofInt (p : Nat)), .int (Int32.ofInt (nl R0 : Nat) - Int32.ofInt (nl S : Nat)), xj, xj]) ⟨Or.inr rfl, Or.inr rfl, Or.inr rfl, Or.inr rfl, Or.inr rfl, Or.inl rfl, Or.inl rfl, trivial⟩ ?_
  refine RW.sk [] rfl ?_
  refine loop (nl R0 - n) _ ?_ (by omega) (lm 0) (nl R0) 0 _ _ (by omega) (by rw [hRi]; omega) (by omega) (Or.inl ⟨rfl, rfl⟩) ?_ ?_
  · rw [hnS, ii_sub, ii_toInt (by omega) (by omega)]; omega
  · exact (my_all (by rw [nl_zero.mpr rfl]; omega) hQl).symm
  · rw [hRi, show sRow o3 (d + 1) (lm 0) 0 = o3 by exact hq3.eta]; exact hr3.eta.symm
