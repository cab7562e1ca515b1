/-! WHOLENUMBERS: combine. -/
def msk (b : Bool) : Nat := if b then 2147483647 else 0
def gop (m : Int32) (u v : Nat) : Nat := if m.toInt = 0 then u &&& v else if m.toInt = 1 then u ||| v else u ^^^ v
theorem gop_bit (m : Int32) (u v i : Nat) : (gop m u v).testBit i = gg m (u.testBit i) (v.testBit i) := by
  unfold gop gg
  by_cases h : m.toInt = 0
  · rw [if_pos h, if_pos h, Nat.testBit_and]
  · rw [if_neg h, if_neg h]
    by_cases h1 : m.toInt = 1
    · rw [if_pos h1, if_pos h1, Nat.testBit_or]
    · rw [if_neg h1, if_neg h1, Nat.testBit_xor]
theorem gg_ff (m : Int32) : gg m false false = false := by unfold gg; simp
theorem msk_bit (b : Bool) (i : Nat) : (msk b).testBit i = (decide (i < 31) && b) := by
  cases b with
  | false => show (0 : Nat).testBit i = _; rw [Nat.zero_testBit, Bool.and_false]
  | true => show (2 ^ 31 - 1).testBit i = _; rw [Nat.testBit_two_pow_sub_one, Bool.and_true]
theorem dg_bit (x k i : Nat) : (dg x k).testBit i = (decide (i < 31) && x.testBit (31 * k + i)) := by
  unfold dg
  rw [show (2147483648 : Nat) = 2 ^ 31 from rfl, Nat.testBit_mod_two_pow, ← Nat.pow_mul, Nat.testBit_div_two_pow, Nat.add_comm]
theorem cbn_ff (m : Int32) (a b : Bool) : (gg m (false ^^ a) (false ^^ b) ^^ gg m a b) = false := by rw [Bool.false_xor, Bool.false_xor, Bool.xor_self]
theorem cbn_bit (m : Int32) (a b : Bool) (x y i : Nat) : (cbn m a b x y).testBit i = (gg m (x.testBit i ^^ a) (y.testBit i ^^ b) ^^ gg m a b) := by
  unfold cbn
  rw [Nat.testBit_bitwise (cbn_ff m a b)]
theorem cb_limb (m : Int32) (a b : Bool) (x y k : Nat) : gop m (dg x k ^^^ msk a) (dg y k ^^^ msk b) ^^^ msk (gg m a b) = dg (cbn m a b x y) k := by
  apply Nat.eq_of_testBit_eq
  intro i
  rw [Nat.testBit_xor, gop_bit, Nat.testBit_xor, Nat.testBit_xor, msk_bit, msk_bit, msk_bit, dg_bit, dg_bit, dg_bit, cbn_bit]
  by_cases h : i < 31
  · rw [decide_eq_true h]; simp only [Bool.true_and]
  · rw [decide_eq_false h]; simp only [Bool.false_and, Bool.false_xor, gg_ff]
theorem gop_msk (m : Int32) (a b : Bool) : gop m (msk a) (msk b) = msk (gg m a b) := by
  apply Nat.eq_of_testBit_eq
  intro i
  rw [gop_bit, msk_bit, msk_bit, msk_bit]
  by_cases h : i < 31
  · rw [decide_eq_true h]; simp only [Bool.true_and]
  · rw [decide_eq_false h]; simp only [Bool.false_and, gg_ff]
theorem cbn_lt {m : Int32} {a b : Bool} {x y n : Nat} (hx : x < 2 ^ n) (hy : y < 2 ^ n) : cbn m a b x y < 2 ^ n := by
  apply Nat.lt_pow_two_of_testBit
  intro i hi
  rw [cbn_bit, Nat.testBit_lt_two_pow (Nat.lt_of_lt_of_le hx (Nat.pow_le_pow_right (by decide) hi)), Nat.testBit_lt_two_pow (Nat.lt_of_lt_of_le hy (Nat.pow_le_pow_right (by decide) hi)), cbn_ff]
theorem n_and {a b : Nat} (ha : a < 2 ^ 64) (hb : b < 2 ^ 64) : Int64.ofInt (a : Int) &&& Int64.ofInt (b : Int) = Int64.ofInt ((a &&& b : Nat) : Int) := by
  rw [ln_eq, ln_eq, ln_eq]
  apply wb_inj
  apply BitVec.eq_of_toNat_eq
  show ((lN a).toBitVec &&& (lN b).toBitVec).toNat = _
  rw [BitVec.toNat_and, wb_tn ha, wb_tn hb, wb_tn (Nat.lt_of_le_of_lt Nat.and_le_left ha)]
theorem n_orr {a b : Nat} (ha : a < 2 ^ 64) (hb : b < 2 ^ 64) : Int64.ofInt (a : Int) ||| Int64.ofInt (b : Int) = Int64.ofInt ((a ||| b : Nat) : Int) := by
  rw [ln_eq, ln_eq, ln_eq]
  exact wb_or ha hb
theorem n_xor {a b : Nat} (ha : a < 2 ^ 64) (hb : b < 2 ^ 64) : Int64.ofInt (a : Int) ^^^ Int64.ofInt (b : Int) = Int64.ofInt ((a ^^^ b : Nat) : Int) := by
  rw [ln_eq, ln_eq, ln_eq]
  apply wb_inj
  apply BitVec.eq_of_toNat_eq
  show ((lN a).toBitVec ^^^ (lN b).toBitVec).toNat = _
  rw [BitVec.toNat_xor, wb_tn ha, wb_tn hb, wb_tn (Nat.xor_lt_two_pow ha hb)]
theorem msk_lt (b : Bool) : msk b < 2147483648 := by cases b <;> decide
theorem gop_lt {m : Int32} {u v n : Nat} (hu : u < 2 ^ n) (hv : v < 2 ^ n) : gop m u v < 2 ^ n := by
  unfold gop
  split
  · exact Nat.lt_of_le_of_lt Nat.and_le_left hu
  · split
    · exact Nat.or_lt_two_pow hu hv
    · exact Nat.xor_lt_two_pow hu hv
section W5
variable {o0 o : xO} {X : Nat} {z : Nat → Int} {t p : List Int32}
theorem c_combined {u v : Nat} {m : Int32} (hu : u < 2147483648) (hv : v < 2147483648) : Cp y_W_combined [.long (Int64.ofInt (u : Nat)), .long (Int64.ofInt (v : Nat)), .int m] o (.long (Int64.ofInt (gop m u v : Nat))) := by
  refine RW.ps 1 rfl ?_
  refine RW.ifc (fun k => ?_) (fun k => ?_)
  · rw [xi_ne, i0] at k
    refine RW.ps 2 rfl ?_
    refine RW.icm (fun k2 => ?_) (fun k2 => ?_)
    · rw [xi_ne, show (1 : Int32).toInt = 1 from rfl] at k2
      refine RW.ps 3 rfl ?_
      refine RW.top (congrArg Value.long (n_xor (a := u) (b := v) (by omega) (by omega))) ?_
      unfold gop
      rw [if_neg k, if_neg k2]
      exact RW.re rfl rfl ⟨rfl, rfl⟩
    · rw [xi_ne, show (1 : Int32).toInt = 1 from rfl] at k2
      have k2 := Classical.not_not.mp k2
      refine RW.ps 3 rfl ?_
      refine RW.top (congrArg Value.long (n_orr (a := u) (b := v) (by omega) (by omega))) ?_
      refine RW.go ?_
      unfold gop
      rw [if_neg k, if_pos k2]
      exact RW.re rfl rfl ⟨rfl, rfl⟩
  · rw [xi_ne, i0] at k
    have k := Classical.not_not.mp k
    refine RW.ps 3 rfl ?_
    refine RW.top (congrArg Value.long (n_and (a := u) (b := v) (by omega) (by omega))) ?_
    refine RW.go ?_
    unfold gop
    rw [if_pos k]
    exact RW.re rfl rfl ⟨rfl, rfl⟩
theorem c_wcombine (h : WI o X z t p) {r a b m : Int32} : Ct y_W_combine [.ref X, .int r, .int a, .int b, .int m] o (WV o X (s_combine z r a b m) 1 t p) := by
  have h := WS.start h
  refine RW.ps 2 rfl ?_
  by_cases hr : ¬ okr r
  · exact RW.cx rfl rfl (xrc_v rfl rfl h.x.1) rfl rfl (c_register_no h.x hr) rfl (h.v1 (if_neg (fun k => hr k.1)))
  have hr := Classical.not_not.mp hr
  refine RW.cp rfl rfl (xrc_v rfl rfl h.x.1) rfl rfl (c_register h.x hr) ?_
  refine RW.ps 3 rfl ?_
  by_cases ha : ¬ okr a
  · exact RW.cx rfl rfl (xrc_v rfl rfl h.x.1) rfl rfl (c_register_no h.x ha) rfl (h.v1 (if_neg (fun k => ha k.2.1)))
  have ha := Classical.not_not.mp ha
  refine RW.cp rfl rfl (xrc_v rfl rfl h.x.1) rfl rfl (c_register h.x ha) ?_
  refine RW.ps 3 rfl ?_
  by_cases hb : ¬ okr b
  · exact RW.cx rfl rfl (xrc_v rfl rfl h.x.1) rfl rfl (c_register_no h.x hb) rfl (h.v1 (if_neg (fun k => hb k.2.2.1)))
  have hb := Classical.not_not.mp hb
  refine RW.cp rfl rfl (xrc_v rfl rfl h.x.1) rfl rfl (c_register h.x hb) ?_
  refine RW.ps 4 rfl ?_
  by_cases hm : ¬ ((0 : Int32).toInt ≤ m.toInt ∧ m.toInt ≤ (2 : Int32).toInt)
  · exact RW.cx rfl rfl rfl rfl rfl (c_checkRange_no hm) rfl (h.v1 (if_neg (fun k => hm k.2.2.2)))
  have hm := Classical.not_not.mp hm
  refine RW.cv rfl rfl rfl rfl rfl (c_checkRange hm) ?_
  intro o1 ho1
  subst ho1
  rw [show (0 : Int32).toInt = 0 from rfl, show (2 : Int32).toInt = 2 from rfl] at hm
  have hsp : s_combine z r a b m = keepV z r (cmb m (z (rx a)) (z (rx b))) := if_pos ⟨hr, ha, hb, hm⟩
  rw [hsp]
  clear hsp
  have tca := core_top (h.top ha)
  have tcb := core_top (h.top hb)
  refine RW.weak (lv0 := [.ref X, xj, xj, xj, .int m, .ref (X + 60 + 3 * rx r), .ref (X + 60 + 3 * rx a), .ref (X + 60 + 3 * rx b), xj, xj, xj, xj, xj, xj, xj, xj]) ⟨Or.inr rfl, Or.inl rfl, Or.inl rfl, Or.inl rfl, Or.inr rfl, Or.inr rfl, Or.inr rfl, Or.inr rfl, Or.inl rfl, Or.inl rfl, Or.inl rfl, Or.inl rfl, Or.inl rfl, Or.inl rfl, Or.inl rfl, Or.inl rfl, trivial⟩ ?_
  refine RW.sk [] rfl ?_
  refine RW.ps 2 rfl ?_
  refine RW.gf h.x.1 h.x.2.2.2.1 ?_
  refine RW.cv rfl rfl (xrc_v rfl rfl (h.w ha).1) rfl rfl (c_core h ha) ?_
  intro o2 ⟨f2, h2, l2⟩
  have wb2 := h2.w hb
  have tb := h2.top hb
  have nb := top_nl tb
  obtain ⟨vr, r2⟩ := h2.2.2.2.2.1
  refine RW.ps 2 rfl ?_
  refine RW.gf h2.x.1 h2.x.2.2.2.2.1 ?_
  refine RW.cv rfl rfl (xrc_v rfl rfl wb2.1) rfl rfl (c_coreInto wb2 r2 (by omega) (by omega)) ?_
  intro o3 ho3
  have f3 : Fr [(X + 7, 2)] o2 o3 := by subst ho3; exact Fr.num
  have r3 : Rn o3 (X + 7) (core (z (rx b))) := by subst ho3; exact Rn.num r2 (Nat.lt_trans tcb top_big)
  clear ho3
  have h3 := h2.right f3 (by omega) (by omega) ⟨_, r3⟩
  have l3 := l2.fr1 f3 (by omega)
  have wa3 := h3.w ha
  have wb3 := h3.w hb
  clear wb2 tb nb r2 f2 f3 l2 h2 h
  unfold cmb
  generalize core (z (rx a)) = x at *
  generalize core (z (rx b)) = y at *
  generalize hna : neg (z (rx a)) = na at *
  generalize hnb : neg (z (rx b)) = nb at *
  have hnx := top_nl tca
  have hny := top_nl tcb
  have hZT : cbn m na nb x y < TOP := cbn_lt tca tcb
  have hZB := Nat.lt_trans hZT top_big
  have hnZ : nl (cbn m na nb x y) ≤ max (nl x) (nl y) := by
    rw [nl_le, b31]
    refine cbn_lt ?_ ?_
    · rw [← b31]; exact nl_le.mp (by omega)
    · rw [← b31]; exact nl_le.mp (by omega)
  generalize hn : max (nl x) (nl y) = n at *
  have h194 : ∀ o4, WS o1 o4 X z t p → Rn o4 (X + 5) (cbn m na nb x y) → ∀ c : Bool, c = gg m na nb → RW (WV o1 X (keepV z r (uncore (cbn m na nb x y) (gg m na nb))) 1 t p) y_W_combine (xbk y_W_combine 194) [.ref X, xj, xj, xj, xj, .ref (X + 60 + 3 * rx r), xj, xj, xj, xj, xj, xj, xj, xj, xj, xj] [.int (sg c), .ref (X + 5), .ref (X + 2)] o4 := by
    intro o4 h4 l4 c hc
    subst hc
    obtain ⟨v0, w0⟩ := h4.2.2.1
    have hnl := top_nl hZT
    refine RW.cv rfl rfl (xrc_v rfl rfl w0.1) rfl rfl (c_becomeCore w0 l4 (by omega) (top_sum hZT (Nat.one_lt_two_pow (by decide)))) ?_
    intro o5 ⟨f5, w5⟩
    have h5 := h4.zw f5 (by omega) (by omega) ⟨_, w5⟩
    refine RW.ps 2 rfl ?_
    refine RW.cw rfl rfl (xrc_v rfl rfl h5.x.1) rfl rfl (c_keepResult h5 w5 hr) rfl (fun w o6 h6 => ?_) (fun E o6 h6 => h6)
    obtain ⟨q1, q2, q3⟩ := h6
    rcases q3 with ⟨q3, q4⟩ | ⟨q3, q4⟩ | ⟨q3, q4⟩
    · cases q4
      exact RW.re rfl rfl ⟨q1, q2, Or.inl ⟨q3, rfl⟩⟩
    · cases q4
    · cases q4
  have h113 : ∀ q k (iw : Int32) o4, k + q = n → iw.toInt = (k : Int) → Fr [(X + 5, 2)] o3 o4 → IsRow o4 (X + 5) → xi o4 (X + 5 + 1) = mx (cbn m na nb x y) x k → xf o4 (X + 5) 1 = .int (Int32.ofInt ((max (nl x) k : Nat) : Int)) → Rn o4 (X + 7) y →
      RW (WV o1 X (keepV z r (uncore (cbn m na nb x y) (gg m na nb))) 1 t p) y_W_combine (xbk y_W_combine 113) [.ref X, xj, xj, xj, .int m, .ref (X + 60 + 3 * rx r), xj, xj, .long (Int64.ofInt (msk na : Nat)), xj, .long (Int64.ofInt (msk nb : Nat)), xj, .long (Int64.ofInt (msk (gg m na nb) : Nat)), xj, .int (Int32.ofInt (n : Nat)), .int iw] [] o4 := by
    intro q
    induction q with
    | zero =>
      intro k iw o4 hk hi f4 r4 x4 u4 y4
      have x4x := h3.x.fr1 f4 (by omega)
      refine RW.ps 2 rfl ?_
      refine RW.icm (fun _ => ?_) (fun k2 => ?_)
      · have hkn : k = n := by omega
        subst hkn
        rw [mx_end (by omega) hnZ] at x4
        rw [show max (nl x) k = k by omega] at u4
        have t4 := c_trim r4 hZB (k - nl (cbn m na nb x y)) k (by omega) (by omega)
        rw [sRow_eta x4 u4] at t4
        refine RW.ps 1 rfl ?_
        refine RW.gf x4x.1 x4x.2.2.2.1 ?_
        refine RW.cv rfl rfl (xrc_v rfl rfl r4.1) rfl rfl (t4) ?_
        intro o5 ho5
        have f5 : Fr [(X + 5, 2)] o4 o5 := by subst ho5; exact Fr.num
        have l5 : Rn o5 (X + 5) (cbn m na nb x y) := by subst ho5; exact Rn.set r4 hZB
        clear ho5
        have h5 := h3.left (f4.trans f5) (by omega) (by omega) ⟨_, l5⟩
        refine RW.weak (lv0 := [.ref X, xj, xj, xj, xj, .ref (X + 60 + 3 * rx r), xj, xj, xj, xj, xj, xj, .long (Int64.ofInt (msk (gg m na nb) : Nat)), xj, xj, xj]) ⟨Or.inr rfl, Or.inl rfl, Or.inl rfl, Or.inl rfl, Or.inl rfl, Or.inr rfl, Or.inl rfl, Or.inl rfl, Or.inl rfl, Or.inl rfl, Or.inl rfl, Or.inl rfl, Or.inr rfl, Or.inl rfl, Or.inl rfl, Or.inl rfl, trivial⟩ ?_
        refine RW.sk [] rfl ?_
        refine RW.ps 1 rfl ?_
        refine RW.gf h5.x.1 h5.x.2.2.1 ?_
        refine RW.ps 1 rfl ?_
        refine RW.gf h5.x.1 h5.x.2.2.2.1 ?_
        refine RW.ps 3 rfl ?_
        have hml := msk_lt (gg m na nb)
        have hne := l_ne_iff (x := (msk (gg m na nb) : Nat)) (by omega) (by omega)
        refine RW.ifc (fun k => ?_) (fun k => ?_)
        · refine RW.ps 1 rfl ?_
          refine RW.weak (lv0 := [.ref X, xj, xj, xj, xj, .ref (X + 60 + 3 * rx r), xj, xj, xj, xj, xj, xj, xj, xj, xj, xj]) ⟨Or.inr rfl, Or.inl rfl, Or.inl rfl, Or.inl rfl, Or.inl rfl, Or.inr rfl, Or.inl rfl, Or.inl rfl, Or.inl rfl, Or.inl rfl, Or.inl rfl, Or.inl rfl, Or.inl rfl, Or.inl rfl, Or.inl rfl, Or.inl rfl, trivial⟩ ?_
          refine RW.sk [.int (sg false), .ref (X + 5), .ref (X + 2)] rfl ?_
          refine h194 o5 h5 l5 false ?_
          cases hc : gg m na nb with
          | false => rfl
          | true =>
            rw [hc] at hne k
            exact absurd k (hne.mpr (by decide))
        · refine RW.ps 1 rfl ?_
          refine RW.go ?_
          refine RW.weak (lv0 := [.ref X, xj, xj, xj, xj, .ref (X + 60 + 3 * rx r), xj, xj, xj, xj, xj, xj, xj, xj, xj, xj]) ⟨Or.inr rfl, Or.inl rfl, Or.inl rfl, Or.inl rfl, Or.inl rfl, Or.inr rfl, Or.inl rfl, Or.inl rfl, Or.inl rfl, Or.inl rfl, Or.inl rfl, Or.inl rfl, Or.inl rfl, Or.inl rfl, Or.inl rfl, Or.inl rfl, trivial⟩ ?_
          refine RW.sk [.int (sg true), .ref (X + 5), .ref (X + 2)] rfl ?_
          refine h194 o5 h5 l5 true ?_
          cases hc : gg m na nb with
          | true => rfl
          | false =>
            rw [hc] at hne k
            exact absurd rfl (hne.mp k)
      · rw [xi_ge, iu (by omega), hi] at k2; omega
    | succ q ih =>
      intro k iw o4 hk hi f4 r4 x4 u4 y4
      have x4x := h3.x.fr1 f4 (by omega)
      have d1 := dg_lt x k
      have d2 := dg_lt y k
      have m1 := msk_lt na
      have m2 := msk_lt nb
      have m3 := msk_lt (gg m na nb)
      have e1 : dg x k ^^^ msk na < 2 ^ 31 := Nat.xor_lt_two_pow d1 m1
      have e2 : dg y k ^^^ msk nb < 2 ^ 31 := Nat.xor_lt_two_pow d2 m2
      have e3 : gop m (dg x k ^^^ msk na) (dg y k ^^^ msk nb) < 2 ^ 31 := gop_lt e1 e2
      have hlimb := cb_limb m na nb x y k
      refine RW.ps 2 rfl ?_
      refine RW.icm (fun k2 => ?_) (fun _ => ?_)
      · rw [xi_ge, iu (by omega), hi] at k2; omega
      refine RW.ps 1 rfl ?_
      refine RW.gf x4x.1 x4x.2.2.2.1 ?_
      refine RW.ps 2 rfl ?_
      refine RW.gf x4x.1 x4x.2.2.2.1 ?_
      refine RW.ps 1 rfl ?_
      refine RW.cp rfl rfl (xrc_v rfl rfl r4.1) rfl rfl (c_dg (x := x) r4 hi (Nat.lt_trans tca top_big) (by rw [x4]; exact mx_at (Nat.le_refl k))) ?_
      refine RW.ps 2 rfl ?_
      refine RW.top (congrArg Value.long (n_xor (a := dg x k) (b := msk na) (by omega) (by omega))) ?_
      refine RW.ps 1 rfl ?_
      refine RW.gf x4x.1 x4x.2.2.2.2.1 ?_
      refine RW.ps 1 rfl ?_
      refine RW.cp rfl rfl (xrc_v rfl rfl y4.1.1) rfl rfl (c_dg (x := y) y4.1 hi y4.2.1 (congrFun y4.2.2.1 k)) ?_
      refine RW.ps 2 rfl ?_
      refine RW.top (congrArg Value.long (n_xor (a := dg y k) (b := msk nb) (by omega) (by omega))) ?_
      refine RW.ps 1 rfl ?_
      refine RW.cp rfl rfl rfl rfl rfl (c_combined e1 e2) ?_
      refine RW.ps 2 rfl ?_
      refine RW.top (congrArg Value.long (n_xor (a := gop m (dg x k ^^^ msk na) (dg y k ^^^ msk nb)) (b := msk (gg m na nb)) (by omega) (by omega))) ?_
      rw [hlimb]
      have d3 := dg_lt (cbn m na nb x y) k
      refine RW.cv rfl rfl (xrc_v rfl rfl r4.1) rfl rfl (c_put r4 hi x4 u4 (by omega) (by omega)) ?_
      intro o5 ho5
      rw [mx_step (Z := cbn m na nb x y) (by omega), show max (max (nl x) k) (k + 1) = max (nl x) (k + 1) by omega] at ho5
      have f5 : Fr [(X + 5, 2)] o4 o5 := by subst ho5; exact Fr.row
      have r5 : IsRow o5 (X + 5) := by subst ho5; exact IsRow.s r4
      have x5 : xi o5 (X + 5 + 1) = mx (cbn m na nb x y) x (k + 1) := by subst ho5; exact sRow_i
      have u5 : xf o5 (X + 5) 1 = .int (Int32.ofInt ((max (nl x) (k + 1) : Nat) : Int)) := by subst ho5; exact sRow_f
      clear ho5
      refine RW.ps 1 rfl ?_
      refine RW.go ?_
      refine RW.weak (lv0 := [.ref X, xj, xj, xj, .int m, .ref (X + 60 + 3 * rx r), xj, xj, .long (Int64.ofInt (msk na : Nat)), xj, .long (Int64.ofInt (msk nb : Nat)), xj, .long (Int64.ofInt (msk (gg m na nb) : Nat)), xj, .int (Int32.ofInt (n : Nat)), .int (iw + 1)]) ⟨Or.inr rfl, Or.inl rfl, Or.inl rfl, Or.inl rfl, Or.inr rfl, Or.inr rfl, Or.inl rfl, Or.inl rfl, Or.inr rfl, Or.inl rfl, Or.inr rfl, Or.inl rfl, Or.inr rfl, Or.inl rfl, Or.inr rfl, Or.inr rfl, trivial⟩ ?_
      refine RW.sk [] rfl ?_
      exact ih (k + 1) (iw + 1) o5 (by omega) (i_succ hi (by omega)) (f4.trans f5) r5 x5 u5 (y4.fr1 f5 (by omega))
  have h78 : ∀ c : Bool, c = nb → RW (WV o1 X (keepV z r (uncore (cbn m na nb x y) (gg m na nb))) 1 t p) y_W_combine (xbk y_W_combine 78) [.ref X, xj, xj, xj, .int m, .ref (X + 60 + 3 * rx r), xj, xj, .long (Int64.ofInt (msk na : Nat)), xj, xj, xj, xj, xj, xj, xj] [.long (Int64.ofInt (msk c : Nat))] o3 := by
    intro c hc
    subst hc
    refine RW.ps 4 rfl ?_
    refine RW.cp rfl rfl rfl rfl rfl (c_combined (msk_lt na) (msk_lt c)) ?_
    rw [gop_msk]
    refine RW.ps 2 rfl ?_
    refine RW.gf h3.x.1 h3.x.2.2.2.1 ?_
    refine RW.gf l3.1.1 l3.2.2.2 ?_
    refine RW.ps 1 rfl ?_
    refine RW.gf h3.x.1 h3.x.2.2.2.2.1 ?_
    refine RW.gf r3.1.1 r3.2.2.2 ?_
    refine RW.sk [.int (Int32.ofInt (nl y : Nat)), .int (Int32.ofInt (nl x : Nat))] rfl ?_
    refine RW.mmax (by decide) ?_
    refine RW.top (congrArg Value.int (imax (u := nl x) (w := nl y) (by omega) (by omega))) ?_
    rw [hn]
    refine RW.ps 3 rfl ?_
    refine RW.weak (lv0 := [.ref X, xj, xj, xj, .int m, .ref (X + 60 + 3 * rx r), xj, xj, .long (Int64.ofInt (msk na : Nat)), xj, .long (Int64.ofInt (msk c : Nat)), xj, .long (Int64.ofInt (msk (gg m na c) : Nat)), xj, .int (Int32.ofInt (n : Nat)), .int 0]) ⟨Or.inr rfl, Or.inl rfl, Or.inl rfl, Or.inl rfl, Or.inr rfl, Or.inr rfl, Or.inl rfl, Or.inl rfl, Or.inr rfl, Or.inl rfl, Or.inr rfl, Or.inl rfl, Or.inr rfl, Or.inl rfl, Or.inr rfl, Or.inr rfl, trivial⟩ ?_
    refine RW.sk [] rfl ?_
    exact h113 n 0 0 o3 (Nat.zero_add _) rfl (Fr.refl _ _) l3.1 (by rw [mx_0]; exact l3.2.2.1) (by rw [Nat.max_zero]; exact l3.2.2.2) r3
  have h61 : ∀ c : Bool, c = na → RW (WV o1 X (keepV z r (uncore (cbn m na nb x y) (gg m na nb))) 1 t p) y_W_combine (xbk y_W_combine 61) [.ref X, xj, xj, xj, .int m, .ref (X + 60 + 3 * rx r), xj, .ref (X + 60 + 3 * rx b), xj, xj, xj, xj, xj, xj, xj, xj] [.long (Int64.ofInt (msk c : Nat))] o3 := by
    intro c hc
    subst hc
    refine RW.ps 2 rfl ?_
    refine RW.gf wb3.1 wb3.2.2.2 ?_
    refine RW.ifc (fun k => ?_) (fun k => ?_)
    · refine RW.ps 1 rfl ?_
      refine RW.weak (lv0 := [.ref X, xj, xj, xj, .int m, .ref (X + 60 + 3 * rx r), xj, xj, .long (Int64.ofInt (msk c : Nat)), xj, xj, xj, xj, xj, xj, xj]) ⟨Or.inr rfl, Or.inl rfl, Or.inl rfl, Or.inl rfl, Or.inr rfl, Or.inr rfl, Or.inl rfl, Or.inl rfl, Or.inr rfl, Or.inl rfl, Or.inl rfl, Or.inl rfl, Or.inl rfl, Or.inl rfl, Or.inl rfl, Or.inl rfl, trivial⟩ ?_
      refine RW.sk [.long (Int64.ofInt (msk false : Nat))] rfl ?_
      exact h78 false (by rw [← hnb]; exact (sg_bool.mp k).symm)
    · refine RW.ps 1 rfl ?_
      refine RW.go ?_
      refine RW.weak (lv0 := [.ref X, xj, xj, xj, .int m, .ref (X + 60 + 3 * rx r), xj, xj, .long (Int64.ofInt (msk c : Nat)), xj, xj, xj, xj, xj, xj, xj]) ⟨Or.inr rfl, Or.inl rfl, Or.inl rfl, Or.inl rfl, Or.inr rfl, Or.inr rfl, Or.inl rfl, Or.inl rfl, Or.inr rfl, Or.inl rfl, Or.inl rfl, Or.inl rfl, Or.inl rfl, Or.inl rfl, Or.inl rfl, Or.inl rfl, trivial⟩ ?_
      refine RW.sk [.long (Int64.ofInt (msk true : Nat))] rfl ?_
      exact h78 true (by rw [← hnb]; exact (sgt k).symm)
  refine RW.weak (lv0 := [.ref X, xj, xj, xj, .int m, .ref (X + 60 + 3 * rx r), .ref (X + 60 + 3 * rx a), .ref (X + 60 + 3 * rx b), xj, xj, xj, xj, xj, xj, xj, xj]) ⟨Or.inr rfl, Or.inl rfl, Or.inl rfl, Or.inl rfl, Or.inr rfl, Or.inr rfl, Or.inr rfl, Or.inr rfl, Or.inl rfl, Or.inl rfl, Or.inl rfl, Or.inl rfl, Or.inl rfl, Or.inl rfl, Or.inl rfl, Or.inl rfl, trivial⟩ ?_
  refine RW.sk [] rfl ?_
  refine RW.ps 1 rfl ?_
  refine RW.gf wa3.1 wa3.2.2.2 ?_
  refine RW.ifc (fun k => ?_) (fun k => ?_)
  · refine RW.ps 1 rfl ?_
    refine RW.weak (lv0 := [.ref X, xj, xj, xj, .int m, .ref (X + 60 + 3 * rx r), xj, .ref (X + 60 + 3 * rx b), xj, xj, xj, xj, xj, xj, xj, xj]) ⟨Or.inr rfl, Or.inl rfl, Or.inl rfl, Or.inl rfl, Or.inr rfl, Or.inr rfl, Or.inl rfl, Or.inr rfl, Or.inl rfl, Or.inl rfl, Or.inl rfl, Or.inl rfl, Or.inl rfl, Or.inl rfl, Or.inl rfl, Or.inl rfl, trivial⟩ ?_
    refine RW.sk [.long (Int64.ofInt (msk false : Nat))] rfl ?_
    exact h61 false (by rw [← hna]; exact (sg_bool.mp k).symm)
  · refine RW.ps 1 rfl ?_
    refine RW.go ?_
    refine RW.weak (lv0 := [.ref X, xj, xj, xj, .int m, .ref (X + 60 + 3 * rx r), xj, .ref (X + 60 + 3 * rx b), xj, xj, xj, xj, xj, xj, xj, xj]) ⟨Or.inr rfl, Or.inl rfl, Or.inl rfl, Or.inl rfl, Or.inr rfl, Or.inr rfl, Or.inl rfl, Or.inr rfl, Or.inl rfl, Or.inl rfl, Or.inl rfl, Or.inl rfl, Or.inl rfl, Or.inl rfl, Or.inl rfl, Or.inl rfl, trivial⟩ ?_
    refine RW.sk [.long (Int64.ofInt (msk true : Nat))] rfl ?_
    exact h61 true (by rw [← hna]; exact (sgt k).symm)
end W5
