/-! TEXT: valueInto. -/
def vl (l : List Int32) (b : Nat) : Nat → Nat → Nat → Nat
  | 0, _, acc => acc
  | n + 1, i, acc => vl l b n (i + 1) (acc * b + dgt (l.getD i 0))
def value (l : List Int32) (b : Nat) : Nat := vl l b (l.length - st0 l) (st0 l) 0
theorem pow36 {b n : Nat} (hb : b ≤ 36) (hn : n ≤ 3000) : b ^ n ≤ 2147483648 ^ 517 := by
  have h1 : b ^ n ≤ 36 ^ n := Nat.pow_le_pow_left hb n
  have h2 : 36 ^ n ≤ 36 ^ 3000 := Nat.pow_le_pow_right (by decide) hn
  have h3 : (36 : Nat) ^ 3000 = 46656 ^ 1000 := by rw [show (46656 : Nat) = 36 ^ 3 from rfl, ← Nat.pow_mul]
  have h4 : 46656 ^ 1000 ≤ (2 ^ 16) ^ 1000 := Nat.pow_le_pow_left (by decide) 1000
  have h5 : ((2 : Nat) ^ 16) ^ 1000 ≤ 2147483648 ^ 517 := by rw [← Nat.pow_mul, b31]; exact Nat.pow_le_pow_right (by decide) (by decide)
  rw [h3] at h2
  exact Nat.le_trans h1 (Nat.le_trans h2 (Nat.le_trans h4 h5))
theorem c_valueInto {o : xO} {t r b v : Nat} {bw : Int32} {l : List Int32} (h : Tx o t l) (hr : Rn o r v) (hd : r + 2 ≤ t ∨ t + 2 ≤ r) (hb : bw.toInt = (b : Int)) (hb2 : 2 ≤ b) (hb3 : b ≤ 36) (hl : ∀ i, st0 l ≤ i → i < l.length → dgt (l.getD i 0) < b) :
    Cv y_Text_valueInto [.ref t, .ref r, .int bw] o (fun o' => o' = sNum o r (value l b)) := by
  have h4 := h.2.2.2.1
  have hs1 : st0 l ≤ 1 := by unfold st0; split <;> omega
  have hs2 := st0_le l
  have hT : ∀ x, Tx (sNum o r x) t l := fun x => h.fr (Fr.num (r := r) (x := x)) ⟨by dsimp only; omega, trivial⟩ ⟨by dsimp only; omega, trivial⟩
  have hbw := i_of hb
  have small : ∀ x i, i ≤ 3000 → x < b ^ i → x < BIG ∧ nl x ≤ 517 := by
    intro x i hi hx
    have h1 : x < 2147483648 ^ 517 := Nat.lt_of_lt_of_le hx (pow36 hb3 hi)
    exact ⟨Nat.lt_of_lt_of_le h1 (Nat.pow_le_pow_right (by decide) (by decide)), nl_le.mpr h1⟩
  have loop : ∀ n i (iw : Int32), i + n = l.length → st0 l ≤ i → iw.toInt = (i : Int) → ∀ F D V w, 0 < F → F * b ≤ 2147483647 → D < F → V * F + D < b ^ i → vl l b n i (V * F + D) = value l b → w = sNum o r V →
      RW (fun r' o' => r' = .inl none ∧ o' = sNum o r (value l b)) y_Text_valueInto (xbk y_Text_valueInto 23) [.ref t, .ref r, .int bw, .int (Int32.ofInt (F : Nat)), .int (Int32.ofInt (D : Nat)), .int iw] [] w := by
    intro n
    induction n with
    | zero =>
      intro i iw hk hsi hi F D V w hF hFb hD hV hval hw
      subst hw
      have hFs : F ≤ 2147483647 := by have := Nat.mul_le_mul_left F (show 1 ≤ b by omega); omega
      obtain ⟨k1, k2⟩ := small _ i (by omega) hV
      have hVV : V ≤ V * F + D := by have := Nat.mul_le_mul_left V hF; omega
      have hVr : Rn (sNum o r V) r V := Rn.num hr (by omega)
      refine RW.ps 2 rfl ?_
      refine RW.gf (hT V).1 (hT V).2.2.2.2.1 ?_
      refine RW.icm (fun _ => ?_) (fun k => ?_)
      · refine RW.ps 3 rfl ?_
        have hval2 : V * F + D = value l b := hval
        refine RW.cv rfl rfl (xrc_v rfl rfl hVr.1.1) rfl rfl (c_scale (f := F) (az := (D : Int)) (Z := V * F + D) hVr (iu (by omega)) (iu (by omega)) (by rw [Int.natCast_add, Int.natCast_mul]) k1 (by have := nl_mono hVV; omega)) ?_
        intro o' ho'
        rw [sNum, sNum, sRow_s, hval2] at ho'
        exact RW.re rfl rfl ⟨rfl, ho'⟩
      · rw [xi_ge, hi, iu (by omega)] at k; omega
    | succ n ih =>
      intro i iw hk hsi hi F D V w hF hFb hD hV hval hw
      subst hw
      have hFs : F ≤ 2147483647 := by have := Nat.mul_le_mul_left F (show 1 ≤ b by omega); omega
      have hdl := hl i hsi (by omega)
      have hval : vl l b n (i + 1) ((V * F + D) * b + dgt (l.getD i 0)) = value l b := hval
      have hV1 : (V * F + D) * b + dgt (l.getD i 0) < b ^ (i + 1) := by
        rw [Nat.pow_succ]
        have := Nat.mul_le_mul_right b (show V * F + D + 1 ≤ b ^ i from hV)
        rw [Nat.succ_mul] at this
        omega
      have hDb : D * b + dgt (l.getD i 0) < F * b := by
        have := Nat.mul_le_mul_right b (show D + 1 ≤ F from hD)
        rw [Nat.succ_mul] at this
        omega
      have hre : (V * F + D) * b + dgt (l.getD i 0) = V * (F * b) + (D * b + dgt (l.getD i 0)) := by rw [Nat.add_mul, Nat.mul_assoc, Nat.add_assoc]
      rw [hre] at hval hV1
      have hcd := c_digit (hT V) hi (show i < l.length by omega)
      generalize dgt (l.getD i 0) = dd at hdl hval hV1 hDb hcd
      obtain ⟨k1, k2⟩ := small _ (i + 1) (by omega) hV1
      have hF2 : 0 < F * b := Nat.mul_pos hF (by omega)
      have hVV : V ≤ V * (F * b) + (D * b + dd) := by have := Nat.mul_le_mul_left V hF2; omega
      have hVr : Rn (sNum o r V) r V := Rn.num hr (by omega)
      refine RW.ps 2 rfl ?_
      refine RW.gf (hT V).1 (hT V).2.2.2.2.1 ?_
      refine RW.icm (fun k => ?_) (fun _ => ?_)
      · rw [xi_ge, hi, iu (by omega)] at k; omega
      refine RW.ps 3 rfl ?_
      refine RW.top (congrArg Value.int ((show Int32.ofInt (F : Nat) * bw = Int32.ofInt ((F * b : Nat) : Int) by rw [hbw, ii_mul, Int.natCast_mul]))) ?_
      refine RW.ps 4 rfl ?_
      refine RW.top (congrArg Value.int ((show Int32.ofInt (D : Nat) * bw = Int32.ofInt ((D * b : Nat) : Int) by rw [hbw, ii_mul, Int.natCast_mul]))) ?_
      refine RW.ps 2 rfl ?_
      refine RW.cp rfl rfl (xrc_v rfl rfl (hT V).1) rfl rfl (hcd) ?_
      refine RW.ps 1 rfl ?_
      refine RW.top (congrArg Value.int ((show Int32.ofInt ((D * b : Nat) : Int) + Int32.ofInt (dd : Nat) = Int32.ofInt ((D * b + dd : Nat) : Int) by rw [ii_add]; rfl))) ?_
      refine RW.ps 1 rfl ?_
      refine RW.weak (lv0 := [.ref t, .ref r, .int bw, .int (Int32.ofInt ((F * b : Nat) : Int)), .int (Int32.ofInt ((D * b + dd : Nat) : Int)), .int iw]) ⟨Or.inr rfl, Or.inr rfl, Or.inr rfl, Or.inr rfl, Or.inr rfl, Or.inr rfl, trivial⟩ ?_
      refine RW.sk [] rfl ?_
      generalize F * b = F2 at *
      generalize D * b + dd = D2 at *
      have hFb2 : F2 * b ≤ 2147483647 * 36 := Nat.mul_le_mul hFb hb3
      refine RW.ps 2 rfl ?_
      refine RW.top (congrArg Value.long (ii_l (z := (F2 : Int)) (by omega) (by omega))) ?_
      refine RW.ps 2 rfl ?_
      refine RW.top (congrArg Value.long ((show bw.toInt64 = Int64.ofInt (b : Int) by rw [hbw]; exact ii_l (by omega) (by omega)))) ?_
      refine RW.ps 1 rfl ?_
      refine RW.top (congrArg Value.long ((show Int64.ofInt (F2 : Int) * Int64.ofInt (b : Int) = Int64.ofInt ((F2 * b : Nat) : Int) by rw [li_mul, Int.natCast_mul]))) ?_
      refine RW.ps 2 rfl ?_
      refine RW.ifc (fun k => ?_) (fun k => ?_)
      · have k : F2 * b ≤ 2147483647 := (lcmp_le (b := 2147483647) (by omega) (by decide)).mp k
        refine RW.weak (lv0 := [.ref t, .ref r, .int bw, .int (Int32.ofInt (F2 : Nat)), .int (Int32.ofInt (D2 : Nat)), .int iw]) ⟨Or.inr rfl, Or.inr rfl, Or.inr rfl, Or.inr rfl, Or.inr rfl, Or.inr rfl, trivial⟩ ?_
        refine RW.sk [] rfl ?_
        refine RW.ps 1 rfl ?_
        refine RW.go ?_
        exact ih (i + 1) (iw + 1) (by omega) (by omega) (i_succ hi (by omega)) F2 D2 V _ hF2 k hDb hV1 hval rfl
      · refine RW.weak (lv0 := [.ref t, .ref r, .int bw, .int (Int32.ofInt (F2 : Nat)), .int (Int32.ofInt (D2 : Nat)), .int iw]) ⟨Or.inr rfl, Or.inr rfl, Or.inr rfl, Or.inr rfl, Or.inr rfl, Or.inr rfl, trivial⟩ ?_
        refine RW.sk [] rfl ?_
        refine RW.ps 3 rfl ?_
        refine RW.cv rfl rfl (xrc_v rfl rfl hVr.1.1) rfl rfl (c_scale (f := F2) (az := (D2 : Int)) (Z := V * F2 + D2) hVr (iu (by omega)) (iu (by omega)) (by rw [Int.natCast_add, Int.natCast_mul]) k1 (by have := nl_mono hVV; omega)) ?_
        intro o' ho'
        rw [sNum, sNum, sRow_s] at ho'
        refine RW.ps 5 rfl ?_
        refine RW.go ?_
        refine ih (i + 1) (iw + 1) (by omega) (by omega) (i_succ hi (by omega)) 1 0 (V * F2 + D2) o' (by omega) (by omega) (by omega) ?_ ?_ ho'
        · rw [Nat.mul_one, Nat.add_zero]; exact hV1
        · rw [Nat.mul_one, Nat.add_zero]; exact hval
  have h21 : ∀ n : Nat, n = st0 l → RW (fun r' o' => r' = .inl none ∧ o' = sNum o r (value l b)) y_Text_valueInto (xbk y_Text_valueInto 21) [.ref t, .ref r, .int bw, .int 1, .int 0, xj] [.int (Int32.ofInt (n : Nat))] (sNum o r 0) := by
    intro n hn
    subst hn
    refine RW.ps 1 rfl ?_
    refine loop (l.length - st0 l) (st0 l) _ (by omega) (Nat.le_refl _) (iu (by omega)) 1 0 0 _ (by omega) (by omega) (by omega) ?_ rfl rfl
    exact Nat.pow_pos (by omega)
  refine RW.ps 1 rfl ?_
  refine RW.cv rfl rfl (xrc_v rfl rfl hr.1.1) rfl rfl (c_clear hr) ?_
  intro o1 ho1
  subst ho1
  refine RW.ps 5 rfl ?_
  refine RW.cp rfl rfl (xrc_v rfl rfl (hT 0).1) rfl rfl (c_hasHyphen (hT 0)) ?_
  cases hh : hy l with
  | true =>
    refine RW.ifc (fun k => absurd (xi_eq.mp k) (by decide)) (fun _ => ?_)
    refine RW.ps 1 rfl ?_
    refine RW.go ?_
    refine RW.weak (lv0 := [.ref t, .ref r, .int bw, .int 1, .int 0, xj]) ⟨Or.inr rfl, Or.inr rfl, Or.inr rfl, Or.inr rfl, Or.inr rfl, Or.inl rfl, trivial⟩ ?_
    refine RW.sk [.int 1] rfl ?_
    exact h21 1 (by unfold st0; rw [if_pos hh])
  | false =>
    refine RW.ifc (fun _ => ?_) (fun k => absurd (xi_eq.mpr rfl) k)
    refine RW.ps 1 rfl ?_
    refine RW.weak (lv0 := [.ref t, .ref r, .int bw, .int 1, .int 0, xj]) ⟨Or.inr rfl, Or.inr rfl, Or.inr rfl, Or.inr rfl, Or.inr rfl, Or.inl rfl, trivial⟩ ?_
    refine RW.sk [.int 0] rfl ?_
    exact h21 0 (by unfold st0; rw [hh]; rfl)
