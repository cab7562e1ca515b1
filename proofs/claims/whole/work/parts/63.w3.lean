/-! WHOLENUMBERS: shift, power, root, common, powerRest. -/
section W3
variable {o0 o : xO} {X : Nat} {z : Nat → Int} {t p : List Int32}
theorem sgt {b : Bool} (h : ¬ xcd .eq (sg b) 0) : b = true := by
  cases hc : b with
  | true => rfl
  | false => exact absurd (sg_bool.mpr hc) h
theorem uncore_abs {x : Int} {k : Nat} (hx : x.natAbs < TOP) (b : Bool) (hb : b = neg x) : (uncore (core x / 2 ^ k) b).natAbs < TOP := by
  subst hb
  have hc : core x / 2 ^ k ≤ core x := Nat.div_le_self _ _
  have hcc : core x = if neg x then x.natAbs - 1 else x.natAbs := rfl
  generalize core x / 2 ^ k = c at *
  generalize core x = d at *
  generalize TOP = T at *
  unfold uncore
  rcases sgn_cases x with ⟨h2, h3⟩ | ⟨h2, h3⟩
  · rw [h2, if_pos rfl] at hcc
    rw [h2, if_pos rfl]; omega
  · rw [h2, if_neg Bool.false_ne_true] at hcc
    rw [h2, if_neg Bool.false_ne_true]; omega
theorem core_top {x : Int} (h : x.natAbs < TOP) : core x < TOP := Nat.lt_of_le_of_lt (core_le x) h
theorem c_wshift (h : WI o X z t p) {r a n : Int32} : Ct y_W_shift [.ref X, .int r, .int a, .int n] o (WV o X (s_shift z r a n) 1 t p) := by
  have h := WS.start h
  refine RW.ps 2 rfl ?_
  by_cases hr : ¬ okr r
  · exact RW.cx rfl rfl (xrc_v rfl rfl h.x.1) rfl rfl (c_register_no h.x hr) rfl (h.v1 (if_neg (fun k => hr k.1)))
  have hr := Classical.not_not.mp hr
  refine RW.cp rfl rfl (xrc_v rfl rfl h.x.1) rfl rfl (c_register h.x hr) ?_
  refine RW.ps 3 rfl ?_
  by_cases ha : ¬ okr a
  · exact RW.cx rfl rfl (xrc_v rfl rfl h.x.1) rfl rfl (c_register_no h.x ha) rfl (h.v1 (if_neg (fun k => ha k.2.1)))
  have ha := Classical.not_not.mp ha
  refine RW.cp rfl rfl (xrc_v rfl rfl h.x.1) rfl rfl (c_register h.x ha) ?_
  refine RW.ps 4 rfl ?_
  by_cases hm : ¬ (((-9000) : Int32).toInt ≤ n.toInt ∧ n.toInt ≤ (9000 : Int32).toInt)
  · exact RW.cx rfl rfl rfl rfl rfl (c_checkRange_no hm) rfl (h.v1 (if_neg (fun k => hm k.2.2)))
  have hm := Classical.not_not.mp hm
  refine RW.cv rfl rfl rfl rfl rfl (c_checkRange hm) ?_
  intro o1 ho1
  subst ho1
  rw [show ((-9000) : Int32).toInt = (-9000) from rfl, show (9000 : Int32).toInt = 9000 from rfl] at hm
  have hsp : s_shift z r a n = keepV z r (shz n.toInt (z (rx a))) := if_pos ⟨hr, ha, hm⟩
  rw [hsp]
  clear hsp
  have wa := h.w ha
  have wr := h.w hr
  have ta := h.top ha
  have na := top_nl ta
  generalize hx : z (rx a) = x at *
  obtain ⟨vl, hl⟩ := h.2.2.2.1
  refine RW.weak (lv0 := [.ref X, xj, xj, .int n, .ref (X + 60 + 3 * rx r), .ref (X + 60 + 3 * rx a)]) ⟨Or.inr rfl, Or.inl rfl, Or.inl rfl, Or.inr rfl, Or.inr rfl, Or.inr rfl, trivial⟩ ?_
  refine RW.sk [] rfl ?_
  refine RW.ps 1 rfl ?_
  refine RW.ifc (fun k => ?_) (fun k => ?_)
  · rw [xi_ge, i0] at k
    have hn : n.toInt = (n.toInt.toNat : Int) := by omega
    generalize n.toInt.toNat = e at hn
    have hsh : shz n.toInt x = mkz (x.natAbs * 2 ^ e) (neg x) := by unfold shz; rw [if_neg (by omega), hn]; rfl
    rw [hsh]
    have habs : (mkz (x.natAbs * 2 ^ e) (neg x)).natAbs = x.natAbs * 2 ^ e := mkz_abs _ _
    have h95 : x.natAbs * 2 ^ e < TOP → nl x.natAbs + e / 31 < 540 → RW (WV o1 X (keepV z r (mkz (x.natAbs * 2 ^ e) (neg x))) 1 t p) y_W_shift (xbk y_W_shift 95) [.ref X, xj, xj, .int n, .ref (X + 60 + 3 * rx r), .ref (X + 60 + 3 * rx a)] [] o1 := by
      intro hT hW
      have hB := Nat.lt_trans hT top_big
      refine RW.ps 1 rfl ?_
      refine RW.gf h.x.1 h.x.2.2.2.1 ?_
      refine RW.ps 1 rfl ?_
      refine RW.gf wa.1 wa.2.1 ?_
      refine RW.ps 1 rfl ?_
      refine RW.cv rfl rfl (xrc_v rfl rfl hl.1.1) rfl rfl (c_becomeRaised hl wa.2.2.1 (by omega) hn (by omega) hB hW) ?_
      intro o2 ho2
      have f2 : Fr [(X + 5, 2)] o1 o2 := by subst ho2; exact Fr.num
      have l2 : Rn o2 (X + 5) (x.natAbs * 2 ^ e) := by subst ho2; exact Rn.num hl hB
      clear ho2
      have h2 := h.left f2 (by omega) (by omega) ⟨_, l2⟩
      have wa2 := wa.fr1 f2 (by omega)
      have wr2 := wr.fr1 f2 (by omega)
      refine RW.ps 2 rfl ?_
      refine RW.gf h2.x.1 h2.x.2.2.2.1 ?_
      refine RW.ps 1 rfl ?_
      refine RW.gf wa2.1 wa2.2.2.2 ?_
      refine RW.cv rfl rfl (xrc_v rfl rfl wr2.1) rfl rfl (c_becomeSigned wr2 l2) ?_
      intro o3 ⟨f3, w3⟩
      exact RW.re rfl rfl ((h2.reg hr.lt f3 w3 (by rw [habs]; exact hT)).v0 (if_pos (by rw [habs]; exact hT)))
    refine RW.ps 1 rfl ?_
    refine RW.cp rfl rfl (xrc_v rfl rfl wa.1) rfl rfl (c_wIsZero wa) ?_
    by_cases hx0 : x = 0
    · rw [if_pos hx0]
      refine RW.ifc (fun _ => ?_) (fun k3 => absurd (xi_ne.mpr (by decide)) k3)
      refine h95 (by rw [hx0, show (0 : Int).natAbs = 0 from rfl, Nat.zero_mul]; exact Nat.two_pow_pos _) ?_
      rw [hx0, show nl (0 : Int).natAbs = 0 from nl_zero.mpr rfl]; omega
    rw [if_neg hx0]
    refine RW.ifc (fun k3 => absurd rfl (xi_ne.mp k3)) (fun _ => ?_)
    have hbb := nbit_big wa.2.2.1.2.1
    have hsft := nbit_shift (y := x.natAbs) (p := e) (by omega)
    refine RW.ps 1 rfl ?_
    refine RW.gf wa.1 wa.2.1 ?_
    refine RW.cp rfl rfl (xrc_v rfl rfl wa.2.2.1.1.1) rfl rfl (c_bits wa.2.2.1) ?_
    refine RW.ps 2 rfl ?_
    refine RW.top (congrArg Value.int ((show Int32.ofInt (nbit x.natAbs : Nat) + n = Int32.ofInt ((nbit x.natAbs + e : Nat) : Int) by rw [i_of hn, ii_add]; rfl))) ?_
    refine RW.ps 1 rfl ?_
    refine RW.icm (fun k2 => ?_) (fun k2 => ?_)
    · rw [xi_le, iu (by omega), show (8192 : Int32).toInt = 8192 from rfl] at k2
      refine h95 (top_bits.mp (by omega)) ?_
      have h1 : nl x.natAbs * 31 ≤ nbit x.natAbs + 30 := by unfold nl; omega
      omega
    · rw [xi_le, iu (by omega), show (8192 : Int32).toInt = 8192 from rfl] at k2
      refine RW.th rfl (h.v2 (if_neg (fun hT => ?_)))
      rw [habs] at hT
      have := top_bits.mpr hT
      omega
  · rw [xi_ge, i0] at k
    have hn : (-n).toInt = ((-n.toInt).toNat : Int) := by
      rw [Int32.toInt_neg, Int.bmod_eq_of_le (by omega) (by omega)]; omega
    have hsh : shz n.toInt x = uncore (core x / 2 ^ (-n.toInt).toNat) (neg x) := by unfold shz; rw [if_pos (by omega)]
    rw [hsh]
    generalize hk : (-n.toInt).toNat = e at *
    have hT := uncore_abs (k := e) ta (neg x) rfl
    have hcT := core_top ta
    have hcn := top_nl hcT
    refine RW.ps 2 rfl ?_
    refine RW.gf h.x.1 h.x.2.2.2.1 ?_
    refine RW.cv rfl rfl (xrc_v rfl rfl wa.1) rfl rfl (c_coreInto wa hl (by omega) (by omega)) ?_
    intro o2 ho2
    have f2 : Fr [(X + 5, 2)] o1 o2 := by subst ho2; exact Fr.num
    have l2 : Rn o2 (X + 5) (core x) := by subst ho2; exact Rn.num hl (Nat.lt_trans hcT top_big)
    clear ho2
    have h2 := h.left f2 (by omega) (by omega) ⟨_, l2⟩
    have wa2 := wa.fr1 f2 (by omega)
    have wr2 := wr.fr1 f2 (by omega)
    refine RW.ps 1 rfl ?_
    refine RW.gf h2.x.1 h2.x.2.2.2.1 ?_
    refine RW.ps 2 rfl ?_
    refine RW.cv rfl rfl (xrc_v rfl rfl l2.1.1) rfl rfl (c_lower l2 hn (by omega)) ?_
    intro o3 ho3
    have hB3 : core x / 2 ^ e < BIG := Nat.lt_of_le_of_lt (Nat.div_le_self _ _) l2.2.1
    have f3 : Fr [(X + 5, 2)] o2 o3 := by subst ho3; exact Fr.num
    have l3 : Rn o3 (X + 5) (core x / 2 ^ e) := by subst ho3; exact Rn.num l2 hB3
    clear ho3
    have h3 := h2.left f3 (by omega) (by omega) ⟨_, l3⟩
    have wa3 := wa2.fr1 f3 (by omega)
    have wr3 := wr2.fr1 f3 (by omega)
    have hT3 : core x / 2 ^ e < TOP := Nat.lt_of_le_of_lt (Nat.div_le_self _ _) hcT
    have hn3 := top_nl hT3
    refine RW.ps 2 rfl ?_
    refine RW.gf h3.x.1 h3.x.2.2.2.1 ?_
    refine RW.ps 1 rfl ?_
    refine RW.gf wa3.1 wa3.2.2.2 ?_
    refine RW.cv rfl rfl (xrc_v rfl rfl wr3.1) rfl rfl (c_becomeCore wr3 l3 (by omega) (top_sum hT3 (Nat.one_lt_two_pow (by decide)))) ?_
    intro o4 ⟨f4, w4⟩
    exact RW.re rfl rfl ((h3.reg hr.lt f4 w4 hT).v0 (if_pos hT))
theorem c_wpower (h : WI o X z t p) {r a n : Int32} : Ct y_W_power [.ref X, .int r, .int a, .int n] o (WV o X (s_power z r a n) 1 t p) := by
  have h := WS.start h
  refine RW.ps 2 rfl ?_
  by_cases hr : ¬ okr r
  · exact RW.cx rfl rfl (xrc_v rfl rfl h.x.1) rfl rfl (c_register_no h.x hr) rfl (h.v1 (if_neg (fun k => hr k.1)))
  have hr := Classical.not_not.mp hr
  refine RW.cp rfl rfl (xrc_v rfl rfl h.x.1) rfl rfl (c_register h.x hr) ?_
  refine RW.ps 3 rfl ?_
  by_cases ha : ¬ okr a
  · exact RW.cx rfl rfl (xrc_v rfl rfl h.x.1) rfl rfl (c_register_no h.x ha) rfl (h.v1 (if_neg (fun k => ha k.2.1)))
  have ha := Classical.not_not.mp ha
  refine RW.cp rfl rfl (xrc_v rfl rfl h.x.1) rfl rfl (c_register h.x ha) ?_
  refine RW.ps 4 rfl ?_
  by_cases hm : ¬ ((0 : Int32).toInt ≤ n.toInt ∧ n.toInt ≤ (8192 : Int32).toInt)
  · exact RW.cx rfl rfl rfl rfl rfl (c_checkRange_no hm) rfl (h.v1 (if_neg (fun k => hm k.2.2)))
  have hm := Classical.not_not.mp hm
  refine RW.cv rfl rfl rfl rfl rfl (c_checkRange hm) ?_
  intro o1 ho1
  subst ho1
  rw [show (0 : Int32).toInt = 0 from rfl, show (8192 : Int32).toInt = 8192 from rfl] at hm
  have hsp : s_power z r a n = keepV z r (pwz n.toInt.toNat (z (rx a))) := if_pos ⟨hr, ha, hm⟩
  rw [hsp]
  clear hsp
  have hn : n.toInt = (n.toInt.toNat : Int) := by omega
  generalize n.toInt.toNat = e at *
  have wa := h.w ha
  have wr := h.w hr
  have ta := h.top ha
  generalize hx : z (rx a) = x at *
  obtain ⟨hp, ⟨v1, p1⟩, p3, ⟨v5, p5⟩, p8, p10, p12⟩ := h.2.2.2.2.2.2.1
  refine RW.weak (lv0 := [.ref X, xj, xj, .int n, .ref (X + 60 + 3 * rx r), .ref (X + 60 + 3 * rx a)]) ⟨Or.inr rfl, Or.inl rfl, Or.inl rfl, Or.inr rfl, Or.inr rfl, Or.inr rfl, trivial⟩ ?_
  refine RW.sk [] rfl ?_
  refine RW.ps 1 rfl ?_
  refine RW.gf h.x.1 h.x.2.2.2.2.2.2.1 ?_
  refine RW.ps 1 rfl ?_
  refine RW.gf wa.1 wa.2.1 ?_
  refine RW.ps 1 rfl ?_
  refine RW.cq rfl rfl (xrc_v rfl rfl hp.1) rfl rfl (c_raise hp p1 p5 wa.2.2.1 (by omega) ta hn (by omega)) ?_
  intro v o2 ⟨hv, f2, q1, q5, q1n⟩
  subst hv
  have oo : ∀ b, (b < X + 16 + 1 ∨ X + 16 + 3 ≤ b) ∧ (b < X + 16 + 5 ∨ X + 16 + 7 ≤ b) → Out [(X + 16 + 1, 2), (X + 16 + 5, 2)] b := fun b hb => ⟨hb.1, hb.2, trivial⟩
  have hp2 := hp.fr f2 (oo _ (by omega)) (oo _ (by omega))
  have zp2 : ZP o2 (X + 16) := ⟨hp2, q1, p3.fr f2 (oo _ (by omega)) (oo _ (by omega)), q5, p8.fr f2 (oo _ (by omega)) (oo _ (by omega)), p10.fr f2 (oo _ (by omega)) (oo _ (by omega)), p12.fr f2 (oo _ (by omega)) (oo _ (by omega))⟩
  have f2 : Fr [(X + 16, 14)] o1 o2 := f2.up (fun b hb => by simp only [Out, and_true] at hb ⊢; omega)
  have h2 := h.zp f2 (by omega) (by omega) zp2
  have wa := wa.fr1 f2 (by omega)
  have wr := wr.fr1 f2 (by omega)
  have habs : (pwz e x).natAbs = x.natAbs ^ e := mkz_abs _ _
  by_cases hT : x.natAbs ^ e < TOP
  · rw [decide_eq_true hT]
    refine RW.ifc (fun _ => ?_) (fun k => absurd (sg_boolne.mpr rfl) k)
    have q1n := q1n hT
    have h77 : ∀ c : Bool, c = (neg x && decide (e % 2 = 1)) → RW (WV o1 X (keepV z r (pwz e x)) 1 t p) y_W_power (xbk y_W_power 77) [.ref X, xj, xj, xj, xj, xj] [.int (sg c), .ref (X + 16 + 1), .ref (X + 60 + 3 * rx r)] o2 := by
      intro c hc
      subst hc
      refine RW.cv rfl rfl (xrc_v rfl rfl wr.1) rfl rfl (c_becomeSigned wr q1n) ?_
      intro o3 ⟨f3, w3⟩
      exact RW.re rfl rfl ((h2.reg hr.lt f3 w3 (by rw [mkz_abs]; exact hT)).v0 (if_pos (by rw [habs]; exact hT)))
    refine RW.ps 2 rfl ?_
    refine RW.gf h2.x.1 h2.x.2.2.2.2.2.2.1 ?_
    refine RW.gf hp2.1 hp2.2.1 ?_
    refine RW.ps 1 rfl ?_
    refine RW.gf wa.1 wa.2.2.2 ?_
    refine RW.ifc (fun k => ?_) (fun k => ?_)
    · refine RW.ps 1 rfl ?_
      refine RW.weak (lv0 := [.ref X, xj, xj, xj, xj, xj]) ⟨Or.inr rfl, Or.inl rfl, Or.inl rfl, Or.inl rfl, Or.inl rfl, Or.inl rfl, trivial⟩ ?_
      refine RW.sk [.int (sg false), .ref (X + 16 + 1), .ref (X + 60 + 3 * rx r)] rfl ?_
      exact h77 false (by rw [sg_bool.mp k]; rfl)
    have k := sgt k
    refine RW.ps 2 rfl ?_
    refine RW.irm (by decide) ?_
    refine RW.top (congrArg Value.int ((show n - n / 2 * 2 = Int32.ofInt ((e % 2 : Nat) : Int) by rw [i_of hn, show (2 : Int32) = Int32.ofInt ((2 : Nat) : Int) by decide]; exact i_rem (by omega) (by decide)))) ?_
    refine RW.ps 1 rfl ?_
    refine RW.icm (fun k2 => ?_) (fun k2 => ?_)
    · rw [xi_ne, iu (by omega), show (1 : Int32).toInt = 1 from rfl] at k2
      refine RW.ps 1 rfl ?_
      refine RW.weak (lv0 := [.ref X, xj, xj, xj, xj, xj]) ⟨Or.inr rfl, Or.inl rfl, Or.inl rfl, Or.inl rfl, Or.inl rfl, Or.inl rfl, trivial⟩ ?_
      refine RW.sk [.int (sg false), .ref (X + 16 + 1), .ref (X + 60 + 3 * rx r)] rfl ?_
      exact h77 false (by rw [decide_eq_false (by omega)]; simp)
    · rw [xi_ne, iu (by omega), show (1 : Int32).toInt = 1 from rfl] at k2
      refine RW.ps 1 rfl ?_
      refine RW.go ?_
      refine RW.weak (lv0 := [.ref X, xj, xj, xj, xj, xj]) ⟨Or.inr rfl, Or.inl rfl, Or.inl rfl, Or.inl rfl, Or.inl rfl, Or.inl rfl, trivial⟩ ?_
      refine RW.sk [.int (sg true), .ref (X + 16 + 1), .ref (X + 60 + 3 * rx r)] rfl ?_
      exact h77 true (by rw [k, decide_eq_true (by omega)]; rfl)
  · rw [decide_eq_false hT]
    refine RW.ifc (fun k => absurd (sg_boolne.mp k) (by decide)) (fun _ => ?_)
    exact RW.th rfl (h2.v2 (if_neg (by rw [habs]; exact hT)))
theorem c_wroot (h : WI o X z t p) {r a : Int32} : Ct y_W_root [.ref X, .int r, .int a] o (WV o X (s_root z r a) 2 t p) := by
  have h := WS.start h
  refine RW.ps 2 rfl ?_
  by_cases hr : ¬ okr r
  · exact RW.cx rfl rfl (xrc_v rfl rfl h.x.1) rfl rfl (c_register_no h.x hr) rfl (h.v1 (if_neg (fun k => hr k.1)))
  have hr := Classical.not_not.mp hr
  refine RW.cp rfl rfl (xrc_v rfl rfl h.x.1) rfl rfl (c_register h.x hr) ?_
  refine RW.ps 3 rfl ?_
  by_cases ha : ¬ okr a
  · exact RW.cx rfl rfl (xrc_v rfl rfl h.x.1) rfl rfl (c_register_no h.x ha) rfl (h.v1 (if_neg (fun k => ha k.2)))
  have ha := Classical.not_not.mp ha
  refine RW.cp rfl rfl (xrc_v rfl rfl h.x.1) rfl rfl (c_register h.x ha) ?_
  have hsp : s_root z r a = (if z (rx a) < 0 then (2, z) else (0, upz z (rx r) (isq (z (rx a)).natAbs))) := if_pos ⟨hr, ha⟩
  rw [hsp]
  clear hsp
  have wa := h.w ha
  have wr := h.w hr
  have ta := h.top ha
  generalize hx : z (rx a) = x at *
  obtain ⟨hq, ⟨v1, p1⟩, hX⟩ := h.2.2.2.2.2.2.2.1
  refine RW.ps 2 rfl ?_
  refine RW.gf wa.1 wa.2.2.2 ?_
  refine RW.weak (lv0 := [.ref X, xj, xj, .ref (X + 60 + 3 * rx r), .ref (X + 60 + 3 * rx a)]) ⟨Or.inr rfl, Or.inl rfl, Or.inl rfl, Or.inr rfl, Or.inr rfl, trivial⟩ ?_
  refine RW.sk [.int (sg (neg x))] rfl ?_
  rcases sgn_cases x with ⟨hs, hx0⟩ | ⟨hs, hx0⟩
  · rw [if_pos hx0]
    refine RW.ifc (fun k => ?_) (fun _ => ?_)
    · rw [sg_bool, hs] at k; cases k
    exact RW.th rfl (h.v2 rfl)
  rw [if_neg (by omega)]
  refine RW.ifc (fun _ => ?_) (fun k => absurd (sg_bool.mpr hs) k)
  obtain ⟨s1, s2⟩ := isq_ok x.natAbs
  have hsT : isq x.natAbs < TOP := by
    refine Nat.lt_of_le_of_lt ?_ ta
    generalize isq x.natAbs = s at *
    rcases Nat.eq_zero_or_pos s with h0 | h0
    · omega
    · have := Nat.mul_le_mul_right s h0; omega
  refine RW.ps 1 rfl ?_
  refine RW.gf h.x.1 h.x.2.2.2.2.2.2.2.1 ?_
  refine RW.ps 1 rfl ?_
  refine RW.gf wa.1 wa.2.1 ?_
  refine RW.cv rfl rfl (xrc_v rfl rfl hq.1) rfl rfl (c_root hq p1 hX wa.2.2.1 (by omega) ta s1 s2) ?_
  intro o2 ⟨f2, q1, qX⟩
  have hq2 := hq.fr f2 (RtS.out (by omega)) (RtS.out (by omega))
  have f2 : Fr [(X + 30, 12)] o o2 := f2.up (fun b hb => by simp only [Out, RtS, and_true] at hb ⊢; omega)
  have h2 := h.zr f2 (by omega) (by omega) ⟨hq2, ⟨_, q1⟩, qX⟩
  have wr := wr.fr1 f2 (by omega)
  refine RW.ps 2 rfl ?_
  refine RW.gf h2.x.1 h2.x.2.2.2.2.2.2.2.1 ?_
  refine RW.gf hq2.1 hq2.2.1 ?_
  refine RW.ps 1 rfl ?_
  refine RW.cv rfl rfl (xrc_v rfl rfl wr.1) rfl rfl (c_becomeSigned (b := false) wr q1) ?_
  intro o3 ⟨f3, w3⟩
  exact RW.re rfl rfl ((h2.reg hr.lt f3 w3 (by rw [mkz_abs]; exact hsT)).v0 rfl)
theorem gcd_top {x y : Nat} (hx : x < TOP) (hy : y < TOP) : Nat.gcd x y < TOP := by
  rcases Nat.eq_zero_or_pos x with h | h
  · rw [h, Nat.gcd_zero_left]; exact hy
  · exact Nat.lt_of_le_of_lt (Nat.gcd_le_left y h) hx
theorem c_wcommon (h : WI o X z t p) {r a b : Int32} : Ct y_W_common [.ref X, .int r, .int a, .int b] o (WV o X (s_common z r a b) 9 t p) := by
  have h := WS.start h
  refine RW.ps 2 rfl ?_
  by_cases hr : ¬ okr r
  · exact RW.cx rfl rfl (xrc_v rfl rfl h.x.1) rfl rfl (c_register_no h.x hr) rfl (h.v1 (if_neg (fun k => hr k.1)))
  have hr := Classical.not_not.mp hr
  refine RW.cp rfl rfl (xrc_v rfl rfl h.x.1) rfl rfl (c_register h.x hr) ?_
  refine RW.ps 3 rfl ?_
  by_cases ha : ¬ okr a
  · exact RW.cx rfl rfl (xrc_v rfl rfl h.x.1) rfl rfl (c_register_no h.x ha) rfl (h.v1 (if_neg (fun k => ha k.2.1)))
  have ha := Classical.not_not.mp ha
  refine RW.cp rfl rfl (xrc_v rfl rfl h.x.1) rfl rfl (c_register h.x ha) ?_
  refine RW.ps 3 rfl ?_
  by_cases hb : ¬ okr b
  · exact RW.cx rfl rfl (xrc_v rfl rfl h.x.1) rfl rfl (c_register_no h.x hb) rfl (h.v1 (if_neg (fun k => hb k.2.2)))
  have hb := Classical.not_not.mp hb
  refine RW.cp rfl rfl (xrc_v rfl rfl h.x.1) rfl rfl (c_register h.x hb) ?_
  have hsp : s_common z r a b = (0, upz z (rx r) (Nat.gcd (z (rx a)).natAbs (z (rx b)).natAbs)) := if_pos ⟨hr, ha, hb⟩
  rw [hsp]
  clear hsp
  have wa := h.w ha
  have wb := h.w hb
  have wr := h.w hr
  have ta := h.top ha
  have tb := h.top hb
  generalize hx : z (rx a) = x at *
  generalize hy : z (rx b) = y at *
  obtain ⟨hq, ⟨v1, p1⟩, hX⟩ := h.2.2.2.2.2.2.2.2.1
  refine RW.ps 2 rfl ?_
  refine RW.gf h.x.1 h.x.2.2.2.2.2.2.2.2.1 ?_
  refine RW.ps 1 rfl ?_
  refine RW.gf wa.1 wa.2.1 ?_
  refine RW.ps 1 rfl ?_
  refine RW.gf wb.1 wb.2.1 ?_
  refine RW.cv rfl rfl (xrc_v rfl rfl hq.1) rfl rfl (c_gcd hq p1 hX wa.2.2.1 wb.2.2.1 (by omega) (by omega) ta tb) ?_
  intro o2 ⟨f2, hq2, q1, qX⟩
  have h2 := h.zg f2 (by omega) (by omega) ⟨hq2, ⟨_, q1⟩, qX⟩
  have wr := wr.fr1 f2 (by omega)
  refine RW.ps 2 rfl ?_
  refine RW.gf h2.x.1 h2.x.2.2.2.2.2.2.2.2.1 ?_
  refine RW.gf hq2.1 hq2.2.1 ?_
  refine RW.ps 1 rfl ?_
  refine RW.cv rfl rfl (xrc_v rfl rfl wr.1) rfl rfl (c_becomeSigned (b := false) wr q1) ?_
  intro o3 ⟨f3, w3⟩
  exact RW.re rfl rfl ((h2.reg hr.lt f3 w3 (by rw [mkz_abs]; exact gcd_top ta tb)).v0 rfl)
theorem c_wpowerRest (h : WI o X z t p) {r a b m : Int32} : Ct y_W_powerRest [.ref X, .int r, .int a, .int b, .int m] o (WV o X (s_powerRest z r a b m) 2 t p) := by
  have h := WS.start h
  refine RW.ps 2 rfl ?_
  by_cases hr : ¬ okr r
  · exact RW.cx rfl rfl (xrc_v rfl rfl h.x.1) rfl rfl (c_register_no h.x hr) rfl (h.v1 (if_neg (fun k => hr k.1)))
  have hr := Classical.not_not.mp hr
  refine RW.cp rfl rfl (xrc_v rfl rfl h.x.1) rfl rfl (c_register h.x hr) ?_
  refine RW.ps 3 rfl ?_
  by_cases ha : ¬ okr a
  · exact RW.cx rfl rfl (xrc_v rfl rfl h.x.1) rfl rfl (c_register_no h.x ha) rfl (h.v1 (if_neg (fun k => ha k.2.1)))
  have ha := Classical.not_not.mp ha
  refine RW.cp rfl rfl (xrc_v rfl rfl h.x.1) rfl rfl (c_register h.x ha) ?_
  refine RW.ps 3 rfl ?_
  by_cases hb : ¬ okr b
  · exact RW.cx rfl rfl (xrc_v rfl rfl h.x.1) rfl rfl (c_register_no h.x hb) rfl (h.v1 (if_neg (fun k => hb k.2.2.1)))
  have hb := Classical.not_not.mp hb
  refine RW.cp rfl rfl (xrc_v rfl rfl h.x.1) rfl rfl (c_register h.x hb) ?_
  refine RW.ps 3 rfl ?_
  by_cases hm : ¬ okr m
  · exact RW.cx rfl rfl (xrc_v rfl rfl h.x.1) rfl rfl (c_register_no h.x hm) rfl (h.v1 (if_neg (fun k => hm k.2.2.2.1)))
  have hm := Classical.not_not.mp hm
  refine RW.cp rfl rfl (xrc_v rfl rfl h.x.1) rfl rfl (c_register h.x hm) ?_
  have wa := h.w ha
  have wb := h.w hb
  have wm := h.w hm
  have wr := h.w hr
  have ta := h.top ha
  have tb := h.top hb
  have tm := h.top hm
  have na := top_nl ta
  have nb := top_nl tb
  have nm := top_nl tm
  have hsp : s_powerRest z r a b m = (if nbit (core (z (rx b))) ≤ 512 ∧ nbit (core (z (rx m))) ≤ 512 then (if z (rx b) < 0 ∨ z (rx m) ≤ 0 then (2, z) else (0, upz z (rx r) (prz (z (rx a)) (z (rx b)) (z (rx m))))) else (1, z)) := by
    unfold s_powerRest
    by_cases h512 : nbit (core (z (rx b))) ≤ 512 ∧ nbit (core (z (rx m))) ≤ 512
    · rw [if_pos h512, if_pos ⟨hr, ha, hb, hm, h512⟩]
    · rw [if_neg h512, if_neg (fun k => h512 k.2.2.2.2)]
  rw [hsp]
  clear hsp
  generalize hx : z (rx a) = x at *
  generalize hy : z (rx b) = y at *
  generalize hw : z (rx m) = w at *
  have hcb := core_top tb
  have hcm := core_top tm
  obtain ⟨vl, hl⟩ := h.2.2.2.1
  obtain ⟨vr, hrr⟩ := h.2.2.2.2.1
  refine RW.ps 3 rfl ?_
  refine RW.weak (lv0 := [.ref X, xj, xj, xj, xj, .ref (X + 60 + 3 * rx r), .ref (X + 60 + 3 * rx a), .ref (X + 60 + 3 * rx b), .ref (X + 60 + 3 * rx m)]) ⟨Or.inr rfl, Or.inl rfl, Or.inl rfl, Or.inl rfl, Or.inl rfl, Or.inr rfl, Or.inr rfl, Or.inr rfl, Or.inr rfl, trivial⟩ ?_
  refine RW.sk [.ref X, .ref (X + 60 + 3 * rx b)] rfl ?_
  refine RW.gf h.x.1 h.x.2.2.2.1 ?_
  refine RW.cv rfl rfl (xrc_v rfl rfl wb.1) rfl rfl (c_coreInto wb hl (by omega) (by omega)) ?_
  intro o2 ho2
  have f2 : Fr [(X + 5, 2)] o o2 := by subst ho2; exact Fr.num
  have l2 : Rn o2 (X + 5) (core y) := by subst ho2; exact Rn.num hl (Nat.lt_trans hcb top_big)
  clear ho2
  have h2 := h.left f2 (by omega) (by omega) ⟨_, l2⟩
  have wm := wm.fr1 f2 (by omega)
  have hrr := hrr.fr1 f2 (by omega)
  refine RW.weak (lv0 := [.ref X, xj, xj, xj, xj, .ref (X + 60 + 3 * rx r), .ref (X + 60 + 3 * rx a), .ref (X + 60 + 3 * rx b), .ref (X + 60 + 3 * rx m)]) ⟨Or.inr rfl, Or.inl rfl, Or.inl rfl, Or.inl rfl, Or.inl rfl, Or.inr rfl, Or.inr rfl, Or.inr rfl, Or.inr rfl, trivial⟩ ?_
  refine RW.sk [] rfl ?_
  refine RW.ps 2 rfl ?_
  refine RW.gf h2.x.1 h2.x.2.2.2.2.1 ?_
  refine RW.cv rfl rfl (xrc_v rfl rfl wm.1) rfl rfl (c_coreInto wm hrr (by omega) (by omega)) ?_
  intro o3 ho3
  have f3 : Fr [(X + 7, 2)] o2 o3 := by subst ho3; exact Fr.num
  have r3 : Rn o3 (X + 7) (core w) := by subst ho3; exact Rn.num hrr (Nat.lt_trans hcm top_big)
  clear ho3
  have h3 := h2.right f3 (by omega) (by omega) ⟨_, r3⟩
  have l3 := l2.fr1 f3 (by omega)
  have wa := (wa.fr1 f2 (by omega)).fr1 f3 (by omega)
  have wb := (wb.fr1 f2 (by omega)).fr1 f3 (by omega)
  have wm := wm.fr1 f3 (by omega)
  have wr := (wr.fr1 f2 (by omega)).fr1 f3 (by omega)
  have b1 := nbit_big l3.2.1
  have b2 := nbit_big r3.2.1
  refine RW.weak (lv0 := [.ref X, xj, xj, xj, xj, .ref (X + 60 + 3 * rx r), .ref (X + 60 + 3 * rx a), .ref (X + 60 + 3 * rx b), .ref (X + 60 + 3 * rx m)]) ⟨Or.inr rfl, Or.inl rfl, Or.inl rfl, Or.inl rfl, Or.inl rfl, Or.inr rfl, Or.inr rfl, Or.inr rfl, Or.inr rfl, trivial⟩ ?_
  refine RW.sk [] rfl ?_
  refine RW.ps 1 rfl ?_
  refine RW.gf h3.x.1 h3.x.2.2.2.1 ?_
  refine RW.cp rfl rfl (xrc_v rfl rfl l3.1.1) rfl rfl (c_bits l3) ?_
  refine RW.ps 1 rfl ?_
  refine RW.icm (fun k => ?_) (fun k => ?_)
  · rw [xi_gt, iu (by omega), show (512 : Int32).toInt = 512 from rfl] at k
    exact RW.th rfl (h3.v1 (if_neg (by omega)))
  rw [xi_gt, iu (by omega), show (512 : Int32).toInt = 512 from rfl] at k
  refine RW.ps 1 rfl ?_
  refine RW.gf h3.x.1 h3.x.2.2.2.2.1 ?_
  refine RW.cp rfl rfl (xrc_v rfl rfl r3.1.1) rfl rfl (c_bits r3) ?_
  refine RW.ps 1 rfl ?_
  refine RW.icm (fun k2 => ?_) (fun k2 => ?_)
  rotate_left
  · rw [xi_le, iu (by omega), show (512 : Int32).toInt = 512 from rfl] at k2
    exact RW.th rfl (h3.v1 (if_neg (by omega)))
  rw [xi_le, iu (by omega), show (512 : Int32).toInt = 512 from rfl] at k2
  rw [if_pos (by omega)]
  have h107 : (y < 0 ∨ w ≤ 0) → ∀ lv, RW (WV o X (if y < 0 ∨ w ≤ 0 then (2, z) else (0, upz z (rx r) (prz x y w))) 2 t p) y_W_powerRest (xbk y_W_powerRest 107) lv [] o3 := by
    intro hc lv
    exact RW.th rfl (h3.v2 (if_pos hc))
  refine RW.weak (lv0 := [.ref X, xj, xj, xj, xj, .ref (X + 60 + 3 * rx r), .ref (X + 60 + 3 * rx a), .ref (X + 60 + 3 * rx b), .ref (X + 60 + 3 * rx m)]) ⟨Or.inr rfl, Or.inl rfl, Or.inl rfl, Or.inl rfl, Or.inl rfl, Or.inr rfl, Or.inr rfl, Or.inr rfl, Or.inr rfl, trivial⟩ ?_
  refine RW.sk [] rfl ?_
  refine RW.ps 1 rfl ?_
  refine RW.gf wb.1 wb.2.2.2 ?_
  refine RW.ifc (fun k3 => ?_) (fun k3 => ?_)
  · have := sg_boolne.mp k3
    exact h107 (Or.inl (by unfold neg at this; exact of_decide_eq_true this)) _
  have hy0 : ¬ y < 0 := fun z => k3 (sg_boolne.mpr (neg_t z))
  refine RW.ps 1 rfl ?_
  refine RW.gf wm.1 wm.2.2.2 ?_
  refine RW.ifc (fun k4 => ?_) (fun k4 => ?_)
  · have := sg_boolne.mp k4
    exact h107 (Or.inr (by unfold neg at this; have := of_decide_eq_true this; omega)) _
  have hw0 : ¬ w < 0 := fun z => k4 (sg_boolne.mpr (neg_t z))
  refine RW.ps 1 rfl ?_
  refine RW.cp rfl rfl (xrc_v rfl rfl wm.1) rfl rfl (c_wIsZero wm) ?_
  by_cases hwz : w = 0
  · rw [if_pos hwz]
    refine RW.ifc (fun k => absurd (xi_eq.mp k) (by decide)) (fun _ => ?_)
    exact h107 (Or.inr (by omega)) _
  rw [if_neg hwz]
  refine RW.ifc (fun _ => ?_) (fun k => absurd (xi_eq.mpr rfl) k)
  rw [if_neg (by omega)]
  obtain ⟨hp, ⟨v1, p1⟩, ⟨v3, p3⟩, pX⟩ := h3.2.2.2.2.2.2.1
  refine RW.weak (lv0 := [.ref X, xj, xj, xj, xj, .ref (X + 60 + 3 * rx r), .ref (X + 60 + 3 * rx a), .ref (X + 60 + 3 * rx b), .ref (X + 60 + 3 * rx m)]) ⟨Or.inr rfl, Or.inl rfl, Or.inl rfl, Or.inl rfl, Or.inl rfl, Or.inr rfl, Or.inr rfl, Or.inr rfl, Or.inr rfl, trivial⟩ ?_
  refine RW.sk [] rfl ?_
  refine RW.ps 1 rfl ?_
  refine RW.gf h3.x.1 h3.x.2.2.2.2.2.2.1 ?_
  refine RW.ps 2 rfl ?_
  refine RW.gf wb.1 wb.2.1 ?_
  refine RW.ps 1 rfl ?_
  refine RW.gf wm.1 wm.2.1 ?_
  refine RW.cv rfl rfl (xrc_v rfl rfl hp.1) rfl rfl (c_raiseByRest hp p1 p3 pX wa (by omega) wb.2.2.1 (by omega) wm.2.2.1 (by omega) (by omega) (by omega) (by omega)) ?_
  intro o4 ⟨f4, q1, q3, qX⟩
  have hp4 := hp.fr f4 (PwS.out (by omega)) (PwS.out (by omega))
  have f4 : Fr [(X + 16, 14)] o3 o4 := f4.up (fun b hb => by simp only [Out, PwS, and_true] at hb ⊢; omega)
  have h4 := h3.zp f4 (by omega) (by omega) ⟨hp4, ⟨_, q1⟩, q3, qX⟩
  have wr := wr.fr1 f4 (by omega)
  refine RW.ps 2 rfl ?_
  refine RW.gf h4.x.1 h4.x.2.2.2.2.2.2.1 ?_
  refine RW.gf hp4.1 hp4.2.1 ?_
  refine RW.ps 1 rfl ?_
  refine RW.cv rfl rfl (xrc_v rfl rfl wr.1) rfl rfl (c_becomeSigned (b := false) wr q1) ?_
  intro o5 ⟨f5, w5⟩
  refine RW.re rfl rfl ((h4.reg hr.lt f5 w5 ?_).v0 rfl)
  rw [mkz_abs]
  exact Nat.lt_trans (Nat.mod_lt _ (by omega)) tm
end W3
