/-! WHOLENUMBERS: compare, low, length, bit, ones, feed, read, print, out, turn. -/
def bitz (x : Int) (i : Int32) : Bool := decide (core x / 2 ^ i.toInt.toNat % 2 = 1) != neg x
theorem pc_more {x n : Nat} (h : nbit x ≤ n) : pc n x = pc (nbit x) x := by
  obtain ⟨k, hk⟩ : ∃ k, n = nbit x + k := ⟨n - nbit x, by omega⟩
  rw [hk, pc_add, Nat.div_eq_of_lt (nbit_self x), pc_0, Nat.add_zero]
theorem nbit_nl (x : Nat) : nbit x ≤ 31 * nl x := by unfold nl; omega
theorem l_not (c : Int) : Int64.ofInt c ^^^ (-1) = Int64.ofInt (-c - 1) := by
  apply Int64.toBitVec_inj.mp
  show (BitVec.ofInt 64 c) ^^^ (-1#64) = BitVec.ofInt 64 (-c - 1)
  rw [show (-1#64) = BitVec.allOnes 64 by decide, BitVec.xor_allOnes]
  apply BitVec.eq_of_toNat_eq
  rw [BitVec.toNat_not, BitVec.toNat_ofInt, BitVec.toNat_ofInt]
  omega
theorem low_bits (c : Nat) : Int64.ofInt (dg c 0 : Nat) ||| Int64.ofInt (dg c 1 : Nat) <<< ((31 : Int32).toInt64 &&& 63) ||| Int64.ofInt (dg c 2 : Nat) <<< ((62 : Int32).toInt64 &&& 63) = Int64.ofInt (c : Int) := by
  have h0 := dg_lt c 0
  have h1 := dg_lt c 1
  rw [n_shl (k := 31) _ rfl (by decide), n_shl (k := 62) _ rfl (by decide), n_or' (by omega) (by omega), li_mod (dg c 2 * 2 ^ 62), show dg c 2 * 2 ^ 62 % 2 ^ 64 = (dg c 2 % 4) * 2 ^ 62 by omega, n_or' (by omega) (by omega), li_mod c]
  congr 1
  unfold dg
  rw [show (2147483648 : Nat) ^ 0 = 1 from rfl, show (2147483648 : Nat) ^ 1 = 2147483648 from rfl, show (2147483648 : Nat) ^ 2 = 4611686018427387904 from rfl]
  omega
theorem fl_bd (l : List Int32) (b : Nat) : ∀ n i, i + n ≤ l.length → -1 ≤ fl l b n i ∧ fl l b n i ≤ l.length := by
  intro n
  induction n with
  | zero => intro i h; rw [fl]; split <;> omega
  | succ n ih =>
    intro i h
    rw [fl]
    split
    · omega
    · exact ih (i + 1) (by omega)
theorem flaw_bd (l : List Int32) (b : Nat) : -1 ≤ flaw l b ∧ flaw l b ≤ l.length := fl_bd l b _ _ (by have := st0_le l; omega)
theorem fl_no (l : List Int32) (b : Nat) : ∀ n i, i + n = l.length → fl l b n i = -1 → ∀ j, i ≤ j → j < l.length → dgt (l.getD j 0) < b := by
  intro n
  induction n with
  | zero => intro i h _ j h1 h2; omega
  | succ n ih =>
    intro i h hf j h1 h2
    rw [fl] at hf
    by_cases hb : b ≤ dgt (l.getD i 0)
    · rw [if_pos hb] at hf; omega
    · rw [if_neg hb] at hf
      by_cases hij : i = j
      · subst hij; omega
      · exact ih (i + 1) (by omega) hf j (by omega) h2
theorem flaw_no {l : List Int32} {b : Nat} (h : flaw l b = -1) : ∀ j, st0 l ≤ j → j < l.length → dgt (l.getD j 0) < b := fl_no l b _ _ (by have := st0_le l; omega) h
theorem vl_lt (l : List Int32) (b : Nat) : ∀ n i acc m, i + n ≤ l.length → acc < b ^ m → (∀ j, i ≤ j → j < i + n → dgt (l.getD j 0) < b) → vl l b n i acc < b ^ (m + n) := by
  intro n
  induction n with
  | zero => intro i acc m _ h _; exact h
  | succ n ih =>
    intro i acc m h1 h2 h3
    rw [vl, show m + (n + 1) = (m + 1) + n by omega]
    refine ih (i + 1) _ (m + 1) (by omega) ?_ (fun j k1 k2 => h3 j (by omega) (by omega))
    have h4 := h3 i (Nat.le_refl _) (by omega)
    have h5 := Nat.mul_le_mul_right b (show acc + 1 ≤ b ^ m from h2)
    rw [Nat.add_mul, Nat.one_mul] at h5
    rw [Nat.pow_succ]
    omega
theorem value_big {l : List Int32} {b : Nat} (hl : l.length ≤ 3000) (hb : b ≤ 36) (h : flaw l b = -1) : value l b < BIG := by
  have h1 := vl_lt l b (l.length - st0 l) (st0 l) 0 0 (by have := st0_le l; omega) (by simp) (fun j k1 k2 => flaw_no h j k1 (by omega))
  have h2 := pow36 (b := b) (n := 0 + (l.length - st0 l)) hb (by omega)
  have h3 : 2147483648 ^ 517 < BIG := Nat.pow_lt_pow_right (by decide) (by decide)
  exact Nat.lt_trans (Nat.lt_of_lt_of_le h1 h2) h3
section W4
variable {o0 o : xO} {X : Nat} {z : Nat → Int} {t p : List Int32}
theorem c_wcompare (h : WI o X z t p) {a b : Int32} : Ct y_W_compare [.ref X, .int a, .int b] o (WA o X z t p (if okr a ∧ okr b then 0 else 1) (.int (cmpZ (z (rx a)) (z (rx b))))) := by
  have h := WS.start h
  refine RW.ps 2 rfl ?_
  by_cases ha : ¬ okr a
  · exact RW.cx rfl rfl (xrc_v rfl rfl h.x.1) rfl rfl (c_register_no h.x ha) rfl (h.a1 (if_neg (fun k => ha k.1)))
  have ha := Classical.not_not.mp ha
  refine RW.cp rfl rfl (xrc_v rfl rfl h.x.1) rfl rfl (c_register h.x ha) ?_
  refine RW.ps 4 rfl ?_
  by_cases hb : ¬ okr b
  · exact RW.cx rfl rfl (xrc_v rfl rfl h.x.1) rfl rfl (c_register_no h.x hb) rfl (h.a1 (if_neg (fun k => hb k.2)))
  have hb := Classical.not_not.mp hb
  refine RW.cp rfl rfl (xrc_v rfl rfl h.x.1) rfl rfl (c_register h.x hb) ?_
  refine RW.cp rfl rfl (xrc_v rfl rfl (h.w ha).1) rfl rfl (c_wAgainst (h.w ha) (h.w hb)) ?_
  exact RW.re rfl rfl (h.a0 (if_pos ⟨ha, hb⟩))
/-- a register's core into the row left -/
theorem c_core (h : WS o0 o X z t p) {a : Int32} (ha : okr a) : Cv y_Whole_coreInto [.ref (X + 60 + 3 * rx a), .ref (X + 5)] o (fun o' => Fr [(X + 5, 2)] o o' ∧ WS o0 o' X z t p ∧ Rn o' (X + 5) (core (z (rx a)))) := by
  obtain ⟨vl, hl⟩ := h.2.2.2.1
  have ta := h.top ha
  have na := top_nl ta
  obtain ⟨n, r, o', e1, e2, e3⟩ := c_coreInto (h.w ha) hl (by omega) (by omega)
  refine ⟨n, r, o', e1, e2, ?_⟩
  have f2 : Fr [(X + 5, 2)] o o' := by subst e3; exact Fr.num
  have l2 : Rn o' (X + 5) (core (z (rx a))) := by subst e3; exact Rn.num hl (Nat.lt_trans (core_top ta) top_big)
  exact ⟨f2, h.left f2 (by omega) (by omega) ⟨_, l2⟩, l2⟩
theorem c_wlow (h : WI o X z t p) {a : Int32} : Ct y_W_low [.ref X, .int a] o (WA o X z t p (if okr a then 0 else 1) (.long (Int64.ofInt (z (rx a))))) := by
  have h := WS.start h
  refine RW.ps 2 rfl ?_
  by_cases ha : ¬ okr a
  · exact RW.cx rfl rfl (xrc_v rfl rfl h.x.1) rfl rfl (c_register_no h.x ha) rfl (h.a1 (if_neg ha))
  have ha := Classical.not_not.mp ha
  refine RW.cp rfl rfl (xrc_v rfl rfl h.x.1) rfl rfl (c_register h.x ha) ?_
  have hk : (if okr a then 0 else 1 : Nat) = 0 := if_pos ha
  refine RW.ps 3 rfl ?_
  refine RW.gf h.x.1 h.x.2.2.2.1 ?_
  refine RW.cv rfl rfl (xrc_v rfl rfl (h.w ha).1) rfl rfl (c_core h ha) ?_
  intro o2 ⟨f2, h2, l2⟩
  have wa := h2.w ha
  generalize hx : z (rx a) = x at *
  have hc : ∀ k, xi o2 (X + 5 + 1) k = Int32.ofInt (dg (core x) k) := fun k => congrFun l2.2.2.1 k
  refine RW.weak (lv0 := [.ref X, xj, .ref (X + 60 + 3 * rx a), xj, xj]) ⟨Or.inr rfl, Or.inl rfl, Or.inr rfl, Or.inl rfl, Or.inl rfl, trivial⟩ ?_
  refine RW.sk [] rfl ?_
  refine RW.ps 1 rfl ?_
  refine RW.gf h2.x.1 h2.x.2.2.2.1 ?_
  refine RW.ps 1 rfl ?_
  refine RW.cp rfl rfl (xrc_v rfl rfl l2.1.1) rfl rfl (c_dg (k := 0) l2.1 rfl l2.2.1 (hc 0)) ?_
  refine RW.ps 1 rfl ?_
  refine RW.gf h2.x.1 h2.x.2.2.2.1 ?_
  refine RW.ps 1 rfl ?_
  refine RW.cp rfl rfl (xrc_v rfl rfl l2.1.1) rfl rfl (c_dg (k := 1) l2.1 rfl l2.2.1 (hc 1)) ?_
  refine RW.ps 4 rfl ?_
  refine RW.gf h2.x.1 h2.x.2.2.2.1 ?_
  refine RW.ps 1 rfl ?_
  refine RW.cp rfl rfl (xrc_v rfl rfl l2.1.1) rfl rfl (c_dg (k := 2) l2.1 rfl l2.2.1 (hc 2)) ?_
  refine RW.ps 3 rfl ?_
  refine RW.top (congrArg Value.long (low_bits (core x))) ?_
  refine RW.ps 2 rfl ?_
  refine RW.gf wa.1 wa.2.2.2 ?_
  refine RW.weak (lv0 := [.ref X, xj, .ref (X + 60 + 3 * rx a), .long (Int64.ofInt (core x : Nat)), xj]) ⟨Or.inr rfl, Or.inl rfl, Or.inr rfl, Or.inr rfl, Or.inl rfl, trivial⟩ ?_
  rcases sgn_cases x with ⟨hs, hx0⟩ | ⟨hs, hx0⟩
  · refine RW.ifc (fun k => ?_) (fun _ => ?_)
    · rw [sg_bool, hs] at k; cases k
    refine RW.ps 3 rfl ?_
    refine RW.top (congrArg Value.long (l_not (core x : Nat))) ?_
    refine RW.go ?_
    have e : -(core x : Int) - 1 = x := by unfold core; rw [hs, if_pos rfl]; omega
    rw [e]
    exact RW.re rfl rfl (h2.a0 hk)
  · refine RW.ifc (fun _ => ?_) (fun k => absurd (sg_bool.mpr hs) k)
    refine RW.ps 1 rfl ?_
    have e : (core x : Int) = x := by unfold core; rw [hs, if_neg Bool.false_ne_true]; omega
    rw [e]
    exact RW.re rfl rfl (h2.a0 hk)
theorem c_wlength (h : WI o X z t p) {a : Int32} : Ct y_W_length [.ref X, .int a] o (WA o X z t p (if okr a then 0 else 1) (.int (Int32.ofInt (nbit (core (z (rx a))) : Nat)))) := by
  have h := WS.start h
  refine RW.ps 2 rfl ?_
  by_cases ha : ¬ okr a
  · exact RW.cx rfl rfl (xrc_v rfl rfl h.x.1) rfl rfl (c_register_no h.x ha) rfl (h.a1 (if_neg ha))
  have ha := Classical.not_not.mp ha
  refine RW.cp rfl rfl (xrc_v rfl rfl h.x.1) rfl rfl (c_register h.x ha) ?_
  refine RW.ps 1 rfl ?_
  refine RW.gf h.x.1 h.x.2.2.2.1 ?_
  refine RW.cv rfl rfl (xrc_v rfl rfl (h.w ha).1) rfl rfl (c_core h ha) ?_
  intro o2 ⟨f2, h2, l2⟩
  refine RW.ps 1 rfl ?_
  refine RW.gf h2.x.1 h2.x.2.2.2.1 ?_
  refine RW.cp rfl rfl (xrc_v rfl rfl l2.1.1) rfl rfl (c_bits l2) ?_
  exact RW.re rfl rfl (h2.a0 (if_pos ha))
theorem c_wones (h : WI o X z t p) {a : Int32} : Ct y_W_ones [.ref X, .int a] o (WA o X z t p (if okr a then 0 else 1) (.int (Int32.ofInt (pc (nbit (core (z (rx a)))) (core (z (rx a))) : Nat)))) := by
  have h := WS.start h
  refine RW.ps 2 rfl ?_
  by_cases ha : ¬ okr a
  · exact RW.cx rfl rfl (xrc_v rfl rfl h.x.1) rfl rfl (c_register_no h.x ha) rfl (h.a1 (if_neg ha))
  have ha := Classical.not_not.mp ha
  refine RW.cp rfl rfl (xrc_v rfl rfl h.x.1) rfl rfl (c_register h.x ha) ?_
  refine RW.ps 1 rfl ?_
  refine RW.gf h.x.1 h.x.2.2.2.1 ?_
  refine RW.cv rfl rfl (xrc_v rfl rfl (h.w ha).1) rfl rfl (c_core h ha) ?_
  intro o2 ⟨f2, h2, l2⟩
  refine RW.ps 1 rfl ?_
  refine RW.gf h2.x.1 h2.x.2.2.2.1 ?_
  refine RW.cp rfl rfl (xrc_v rfl rfl l2.1.1) rfl rfl (c_countOnes l2) ?_
  rw [pc_more (nbit_nl _)]
  exact RW.re rfl rfl (h2.a0 (if_pos ha))
theorem c_wbit (h : WI o X z t p) {a i : Int32} : Ct y_W_bit [.ref X, .int a, .int i] o (WA o X z t p (if okr a ∧ 0 ≤ i.toInt then 0 else 1) (.int (sg (bitz (z (rx a)) i)))) := by
  have h := WS.start h
  have hi2 := i.toInt_lt
  refine RW.ps 2 rfl ?_
  by_cases ha : ¬ okr a
  · exact RW.cx rfl rfl (xrc_v rfl rfl h.x.1) rfl rfl (c_register_no h.x ha) rfl (h.a1 (if_neg (fun k => ha k.1)))
  have ha := Classical.not_not.mp ha
  refine RW.cp rfl rfl (xrc_v rfl rfl h.x.1) rfl rfl (c_register h.x ha) ?_
  refine RW.ps 2 rfl ?_
  refine RW.ifc (fun k => ?_) (fun k => ?_)
  rotate_left
  · rw [xi_ge, i0] at k
    exact RW.th rfl (h.a1 (if_neg (fun z => k z.2)))
  rw [xi_ge, i0] at k
  refine RW.ps 2 rfl ?_
  refine RW.gf h.x.1 h.x.2.2.2.1 ?_
  refine RW.cv rfl rfl (xrc_v rfl rfl (h.w ha).1) rfl rfl (c_core h ha) ?_
  intro o2 ⟨f2, h2, l2⟩
  have wa := h2.w ha
  refine RW.weak (lv0 := [.ref X, xj, .int i, .ref (X + 60 + 3 * rx a)]) ⟨Or.inr rfl, Or.inl rfl, Or.inr rfl, Or.inr rfl, trivial⟩ ?_
  refine RW.sk [] rfl ?_
  refine RW.ps 1 rfl ?_
  refine RW.gf h2.x.1 h2.x.2.2.2.1 ?_
  refine RW.ps 1 rfl ?_
  refine RW.cp rfl rfl (xrc_v rfl rfl l2.1.1) rfl rfl (c_hasOne (n := i.toInt.toNat) l2 (by omega) (by omega)) ?_
  refine RW.ps 1 rfl ?_
  refine RW.gf wa.1 wa.2.2.2 ?_
  have h48 : ∀ c : Bool, c = bitz (z (rx a)) i → RW (WA o X z t p (if okr a ∧ 0 ≤ i.toInt then 0 else 1) (.int (sg (bitz (z (rx a)) i)))) y_W_bit (xbk y_W_bit 48) [] [.int (sg c)] o2 := by
    intro c hc
    subst hc
    refine RW.re rfl ?_ (h2.a0 (if_pos ⟨ha, k⟩))
    cases bitz (z (rx a)) i <;> rfl
  refine RW.icm (fun k => ?_) (fun k => ?_)
  · rw [xi_eq, sg_eq] at k
    refine RW.ps 1 rfl ?_
    refine RW.weak (lv0 := []) trivial ?_
    refine RW.sk [.int (sg false)] rfl ?_
    exact h48 false (by unfold bitz; rw [k]; simp)
  · rw [xi_eq, sg_eq] at k
    refine RW.ps 1 rfl ?_
    refine RW.go ?_
    refine RW.weak (lv0 := []) trivial ?_
    refine RW.sk [.int (sg true)] rfl ?_
    exact h48 true (by unfold bitz; exact (bne_iff_ne.mpr k).symm)
theorem c_wfeed (h : WI o X z t p) {c : Int32} : Ct y_W_feed [.ref X, .int c] o (WA o X z (if t.length < 3000 then t ++ [c] else t) p 0 (.int (sg (decide (t.length < 3000))))) := by
  have h := WS.start h
  have ht := h.2.2.2.2.2.2.2.2.2.1
  refine RW.ps 1 rfl ?_
  refine RW.gf h.x.1 h.x.2.2.2.2.2.2.2.2.2.1 ?_
  refine RW.ps 1 rfl ?_
  refine RW.cq rfl rfl (xrc_v rfl rfl ht.1) rfl rfl (c_textAdd ht) ?_
  intro v o2 ⟨hv, f2, t2⟩
  subst hv
  refine RW.re rfl ?_ ((h.tx f2 (by omega) (by omega) t2).a0 rfl)
  cases decide (t.length < 3000) <;> rfl
theorem c_wout (h : WI o X z t p) {i : Int32} : Ct y_W_out [.ref X, .int i] o (WA o X z t p 0 (.int (chAt p i))) := by
  have h := WS.start h
  have hp := h.2.2.2.2.2.2.2.2.2.2.1.1
  refine RW.ps 1 rfl ?_
  refine RW.gf h.x.1 h.x.2.2.2.2.2.2.2.2.2.2.1 ?_
  refine RW.ps 1 rfl ?_
  refine RW.cp rfl rfl (xrc_v rfl rfl hp.1) rfl rfl (c_character hp) ?_
  exact RW.re rfl rfl (h.a0 rfl)
theorem c_wprint (h : WI o X z t p) {a b : Int32} : Ct y_W_print [.ref X, .int a, .int b] o (WA o X z t (if okr a ∧ okb b then pr (z (rx a)) b.toInt.toNat else p) (if okr a ∧ okb b then 0 else 1) (.int (Int32.ofInt ((pr (z (rx a)) b.toInt.toNat).length : Nat)))) := by
  have h := WS.start h
  refine RW.ps 2 rfl ?_
  by_cases hok : ¬ (okr a ∧ okb b)
  · rw [if_neg hok, if_neg hok]
    by_cases ha : ¬ okr a
    · exact RW.cx rfl rfl (xrc_v rfl rfl h.x.1) rfl rfl (c_register_no h.x ha) rfl (h.a1 rfl)
    have ha := Classical.not_not.mp ha
    refine RW.cp rfl rfl (xrc_v rfl rfl h.x.1) rfl rfl (c_register h.x ha) ?_
    refine RW.ps 4 rfl ?_
    by_cases hm : ¬ ((2 : Int32).toInt ≤ b.toInt ∧ b.toInt ≤ (36 : Int32).toInt)
    · exact RW.cx rfl rfl rfl rfl rfl (c_checkRange_no hm) rfl (h.a1 rfl)
    have hm := Classical.not_not.mp hm
    refine RW.cv rfl rfl rfl rfl rfl (c_checkRange hm) ?_
    intro o1 ho1
    subst ho1
    rw [show (2 : Int32).toInt = 2 from rfl, show (36 : Int32).toInt = 36 from rfl] at hm
    exact absurd ⟨ha, hm⟩ hok
  have hok := Classical.not_not.mp hok
  rw [if_pos hok, if_pos hok]
  obtain ⟨ha, hb⟩ := hok
  have hb2 : b.toInt = (b.toInt.toNat : Int) := by omega
  generalize b.toInt.toNat = n at *
  refine RW.cp rfl rfl (xrc_v rfl rfl h.x.1) rfl rfl (c_register h.x ha) ?_
  refine RW.ps 4 rfl ?_
  refine RW.cv rfl rfl rfl rfl rfl (c_checkRange (l := 2) (m := 36) hb) ?_
  intro o1 ho1
  subst ho1
  obtain ⟨hp, vg, hg⟩ := h.2.2.2.2.2.2.2.2.2.2.1
  have wa := h.w ha
  refine RW.ps 1 rfl ?_
  refine RW.gf h.x.1 h.x.2.2.2.2.2.2.2.2.2.2.1 ?_
  refine RW.ps 2 rfl ?_
  refine RW.cv rfl rfl (xrc_v rfl rfl hp.1) rfl rfl (c_write hp hg wa (by omega) hb2 (by omega) (by omega) (h.top ha)) ?_
  intro o2 ⟨f2, p2, g2⟩
  have h2 := h.za f2 (by omega) (by omega) ⟨p2, g2⟩
  refine RW.ps 1 rfl ?_
  refine RW.gf h2.x.1 h2.x.2.2.2.2.2.2.2.2.2.2.1 ?_
  refine RW.gf p2.1 p2.2.2.2.2.2.1 ?_
  exact RW.re rfl rfl (h2.a0 rfl)
theorem c_wread (h : WI o X z t p) {r b : Int32} : Ct y_W_read [.ref X, .int r, .int b] o (WA o X (if okr r ∧ okb b then rdZ z t r b else z) (if okr r ∧ okb b then [] else t) p (if okr r ∧ okb b then 0 else 1) (.int (Int32.ofInt (rdA t b)))) := by
  have h := WS.start h
  refine RW.ps 2 rfl ?_
  by_cases hok : ¬ (okr r ∧ okb b)
  · rw [if_neg hok, if_neg hok, if_neg hok]
    by_cases hr : ¬ okr r
    · exact RW.cx rfl rfl (xrc_v rfl rfl h.x.1) rfl rfl (c_register_no h.x hr) rfl (h.a1 rfl)
    have hr := Classical.not_not.mp hr
    refine RW.cp rfl rfl (xrc_v rfl rfl h.x.1) rfl rfl (c_register h.x hr) ?_
    refine RW.ps 4 rfl ?_
    by_cases hm : ¬ ((2 : Int32).toInt ≤ b.toInt ∧ b.toInt ≤ (36 : Int32).toInt)
    · exact RW.cx rfl rfl rfl rfl rfl (c_checkRange_no hm) rfl (h.a1 rfl)
    have hm := Classical.not_not.mp hm
    refine RW.cv rfl rfl rfl rfl rfl (c_checkRange hm) ?_
    intro o1 ho1
    subst ho1
    rw [show (2 : Int32).toInt = 2 from rfl, show (36 : Int32).toInt = 36 from rfl] at hm
    exact absurd ⟨hr, hm⟩ hok
  have hok := Classical.not_not.mp hok
  rw [if_pos hok, if_pos hok, if_pos hok]
  obtain ⟨hr, hb⟩ := hok
  have hb2 : b.toInt = (b.toInt.toNat : Int) := by omega
  unfold rdA rdZ
  generalize b.toInt.toNat = n at *
  refine RW.cp rfl rfl (xrc_v rfl rfl h.x.1) rfl rfl (c_register h.x hr) ?_
  refine RW.ps 4 rfl ?_
  refine RW.cv rfl rfl rfl rfl rfl (c_checkRange (l := 2) (m := 36) hb) ?_
  intro o1 ho1
  subst ho1
  have ht := h.2.2.2.2.2.2.2.2.2.1
  have htl := ht.2.2.2.1
  have hfb := flaw_bd t n
  refine RW.ps 1 rfl ?_
  refine RW.gf h.x.1 h.x.2.2.2.2.2.2.2.2.2.1 ?_
  refine RW.ps 1 rfl ?_
  refine RW.cp rfl rfl (xrc_v rfl rfl ht.1) rfl rfl (c_firstFlaw ht hb2) ?_
  have h77 : ∀ (v : Int) o2 z', WS o1 o2 X z' t p → v = (if flaw t n = -1 then (if value t n < TOP then -1 else 3001) else flaw t n) → z' = (if flaw t n = -1 ∧ value t n < TOP then upz z (rx r) (mkz (value t n) (hy t)) else z) → RW (WA o1 X (if flaw t n = -1 ∧ value t n < TOP then upz z (rx r) (mkz (value t n) (hy t)) else z) [] p 0 (.int (Int32.ofInt (if flaw t n = -1 then (if value t n < TOP then -1 else 3001) else flaw t n)))) y_W_read (xbk y_W_read 77) [.ref X, xj, xj, xj, .int (Int32.ofInt v)] [] o2 := by
    intro v o2 z' h2 hv hz'
    rw [← hv, ← hz']
    have ht2 := h2.2.2.2.2.2.2.2.2.2.1
    refine RW.ps 1 rfl ?_
    refine RW.gf h2.x.1 h2.x.2.2.2.2.2.2.2.2.2.1 ?_
    refine RW.cv rfl rfl (xrc_v rfl rfl ht2.1) rfl rfl (c_textClear ht2) ?_
    intro o3 ⟨f3, t3⟩
    refine RW.ps 1 rfl ?_
    exact RW.re rfl rfl ((h2.tx f3 (by omega) (by omega) t3).a0 rfl)
  refine RW.ps 3 rfl ?_
  refine RW.weak (lv0 := [.ref X, xj, .int b, .ref (X + 60 + 3 * rx r), .int (Int32.ofInt (flaw t n))]) ⟨Or.inr rfl, Or.inl rfl, Or.inr rfl, Or.inr rfl, Or.inr rfl, trivial⟩ ?_
  refine RW.sk [.int (-1), .int (Int32.ofInt (flaw t n))] rfl ?_
  refine RW.icm (fun k => ?_) (fun k => ?_)
  · rw [xi_ne, ii_toInt (by omega) (by omega), show (-1 : Int32).toInt = -1 from rfl] at k
    refine RW.weak (lv0 := [.ref X, xj, xj, xj, .int (Int32.ofInt (flaw t n))]) ⟨Or.inr rfl, Or.inl rfl, Or.inl rfl, Or.inl rfl, Or.inr rfl, trivial⟩ ?_
    refine RW.sk [] rfl ?_
    exact h77 _ o1 z h (by rw [if_neg k]) (by rw [if_neg (fun z => k z.1)])
  rw [xi_ne, ii_toInt (by omega) (by omega), show (-1 : Int32).toInt = -1 from rfl] at k
  have k := Classical.not_not.mp k
  obtain ⟨vl, hl⟩ := h.2.2.2.1
  have hvB := value_big htl (by omega) k
  refine RW.ps 1 rfl ?_
  refine RW.gf h.x.1 h.x.2.2.2.2.2.2.2.2.2.1 ?_
  refine RW.ps 1 rfl ?_
  refine RW.gf h.x.1 h.x.2.2.2.1 ?_
  refine RW.ps 1 rfl ?_
  refine RW.cv rfl rfl (xrc_v rfl rfl ht.1) rfl rfl (c_valueInto ht hl (by omega) hb2 (by omega) (by omega) (flaw_no k)) ?_
  intro o2 ho2
  have f2 : Fr [(X + 5, 2)] o1 o2 := by subst ho2; exact Fr.num
  have l2 : Rn o2 (X + 5) (value t n) := by subst ho2; exact Rn.num hl hvB
  clear ho2
  have h2 := h.left f2 (by omega) (by omega) ⟨_, l2⟩
  have hnb := nbit_big hvB
  refine RW.weak (lv0 := [.ref X, xj, xj, .ref (X + 60 + 3 * rx r), .int (Int32.ofInt (flaw t n))]) ⟨Or.inr rfl, Or.inl rfl, Or.inl rfl, Or.inr rfl, Or.inr rfl, trivial⟩ ?_
  refine RW.sk [] rfl ?_
  refine RW.ps 1 rfl ?_
  refine RW.gf h2.x.1 h2.x.2.2.2.1 ?_
  refine RW.cp rfl rfl (xrc_v rfl rfl l2.1.1) rfl rfl (c_bits l2) ?_
  refine RW.ps 1 rfl ?_
  refine RW.icm (fun k2 => ?_) (fun k2 => ?_)
  · rw [xi_le, iu (by omega), show (8192 : Int32).toInt = 8192 from rfl] at k2
    have hT : value t n < TOP := top_bits.mp (by omega)
    have ht2 := h2.2.2.2.2.2.2.2.2.2.1
    refine RW.ps 2 rfl ?_
    refine RW.gf h2.x.1 h2.x.2.2.2.1 ?_
    refine RW.ps 1 rfl ?_
    refine RW.gf h2.x.1 h2.x.2.2.2.2.2.2.2.2.2.1 ?_
    refine RW.cp rfl rfl (xrc_v rfl rfl ht2.1) rfl rfl (c_hasHyphen ht2) ?_
    refine RW.cv rfl rfl (xrc_v rfl rfl (h2.w hr).1) rfl rfl (c_becomeSigned (h2.w hr) l2) ?_
    intro o3 ⟨f3, w3⟩
    refine RW.weak (lv0 := [.ref X, xj, xj, xj, .int (Int32.ofInt (-1))]) ⟨Or.inr rfl, Or.inl rfl, Or.inl rfl, Or.inl rfl, Or.inr (by rw [k]), trivial⟩ ?_
    refine RW.sk [] rfl ?_
    exact h77 _ o3 _ (h2.reg hr.lt f3 w3 (by rw [mkz_abs]; exact hT)) (by rw [if_pos k, if_pos hT]) (by rw [if_pos ⟨k, hT⟩])
  · rw [xi_le, iu (by omega), show (8192 : Int32).toInt = 8192 from rfl] at k2
    have hT : ¬ value t n < TOP := fun z => by have := top_bits.mpr z; omega
    refine RW.ps 2 rfl ?_
    refine RW.go ?_
    refine RW.weak (lv0 := [.ref X, xj, xj, xj, .int (Int32.ofInt 3001)]) ⟨Or.inr rfl, Or.inl rfl, Or.inl rfl, Or.inl rfl, Or.inr rfl, trivial⟩ ?_
    refine RW.sk [] rfl ?_
    exact h77 _ o2 _ h2 (by rw [if_pos k, if_neg hT]) (by rw [if_neg (fun z => hT z.2)])
theorem trn_step {p : List Int32} {i : Nat} (h : i < p.length) : p.reverse.take (i + 1) = p.reverse.take i ++ [p.getD (p.length - 1 - i) 0] := by
  rw [List.take_succ_eq_append_getElem (by rw [List.length_reverse]; exact h), List.getElem_reverse]
  congr 2
  rw [List.getD_eq_getElem?_getD, List.getElem?_eq_getElem (by omega)]
  rfl
theorem imin {u w : Nat} (hu : u < 2147483648) (hw : w < 2147483648) : (if Int32.ofInt (w : Int) < Int32.ofInt (u : Int) then Int32.ofInt (w : Int) else Int32.ofInt (u : Int)) = Int32.ofInt ((min u w : Nat) : Int) := by
  have e : Int32.ofInt (w : Int) < Int32.ofInt (u : Int) ↔ (w : Int) < u := ii_lt (by omega) (by omega) (by omega) (by omega)
  by_cases h : (w : Int) < u
  · rw [if_pos (e.mpr h)]; congr 1; omega
  · rw [if_neg (fun k => h (e.mp k))]; congr 1; omega
theorem c_wturn (h : WI o X z t p) : Ct y_W_turn [.ref X] o (WA o X z (trn p) p 0 (.int (Int32.ofInt ((trn p).length : Nat)))) := by
  have h := WS.start h
  have htl : (trn p).length = min p.length 3000 := by unfold trn; rw [List.length_take, List.length_reverse]; omega
  have hpl := h.2.2.2.2.2.2.2.2.2.2.1.1.2.2.2.2.1
  have loop : ∀ m i (iw : Int32) o2, i + m = min p.length 3000 → iw.toInt = (i : Int) → WS o o2 X z (p.reverse.take i) p → RW (WA o X z (trn p) p 0 (.int (Int32.ofInt ((trn p).length : Nat)))) y_W_turn (xbk y_W_turn 23) [.ref X, .int (Int32.ofInt ((min p.length 3000 : Nat) : Int)), .int iw] [] o2 := by
    intro m
    induction m with
    | zero =>
      intro i iw o2 hi hiw h2
      refine RW.ps 2 rfl ?_
      refine RW.icm (fun _ => ?_) (fun k => ?_)
      · refine RW.ps 1 rfl ?_
        have e : p.reverse.take i = trn p := by
          unfold trn
          by_cases hc : p.length ≤ 3000
          · rw [List.take_of_length_le (by rw [List.length_reverse]; omega), List.take_of_length_le (by rw [List.length_reverse]; omega)]
          · congr 1; omega
        rw [e] at h2
        rw [← htl]
        exact RW.re rfl rfl (h2.a0 rfl)
      · rw [xi_ge, iu (by omega), hiw] at k; omega
    | succ m ih =>
      intro i iw o2 hi hiw h2
      have ht2 := h2.2.2.2.2.2.2.2.2.2.1
      have hp2 := h2.2.2.2.2.2.2.2.2.2.2.1.1
      refine RW.ps 2 rfl ?_
      refine RW.icm (fun k => ?_) (fun _ => ?_)
      · rw [xi_ge, iu (by omega), hiw] at k; omega
      refine RW.ps 1 rfl ?_
      refine RW.gf h2.x.1 h2.x.2.2.2.2.2.2.2.2.2.1 ?_
      refine RW.ps 1 rfl ?_
      refine RW.gf h2.x.1 h2.x.2.2.2.2.2.2.2.2.2.2.1 ?_
      refine RW.ps 1 rfl ?_
      refine RW.cp rfl rfl (xrc_v rfl rfl hp2.1) rfl rfl (c_character hp2) ?_
      have hlt : (p.reverse.take i).length < 3000 := by rw [List.length_take]; omega
      refine RW.cq rfl rfl (xrc_v rfl rfl ht2.1) rfl rfl (c_textAdd ht2) ?_
      intro v o3 ⟨hv, f3, t3⟩
      subst hv
      have hch : chAt p iw = p.getD (p.length - 1 - i) 0 := by
        unfold chAt
        rw [if_pos (by omega), hiw]
        congr 1
      rw [if_pos hlt, hch, ← trn_step (by omega)] at t3
      refine RW.ps 2 rfl ?_
      refine RW.go ?_
      exact ih (i + 1) (iw + 1) o3 (by omega) (i_succ hiw (by omega)) (h2.tx f3 (by omega) (by omega) t3)
  have ht := h.2.2.2.2.2.2.2.2.2.1
  refine RW.ps 1 rfl ?_
  refine RW.gf h.x.1 h.x.2.2.2.2.2.2.2.2.2.1 ?_
  refine RW.cv rfl rfl (xrc_v rfl rfl ht.1) rfl rfl (c_textClear ht) ?_
  intro o2 ⟨f2, t2⟩
  have h2 := h.tx f2 (by omega) (by omega) t2
  have hp2 := h2.2.2.2.2.2.2.2.2.2.2.1.1
  refine RW.ps 1 rfl ?_
  refine RW.gf h2.x.1 h2.x.2.2.2.2.2.2.2.2.2.2.1 ?_
  refine RW.gf hp2.1 hp2.2.2.2.2.2.1 ?_
  refine RW.ps 1 rfl ?_
  refine RW.mmin (by decide) ?_
  refine RW.top (congrArg Value.int (imin (u := p.length) (w := 3000) (by omega) (by decide))) ?_
  refine RW.ps 3 rfl ?_
  refine RW.weak (lv0 := [.ref X, .int (Int32.ofInt ((min p.length 3000 : Nat) : Int)), .int 0]) ⟨Or.inr rfl, Or.inr rfl, Or.inr rfl, trivial⟩ ?_
  refine RW.sk [] rfl ?_
  exact loop _ 0 0 o2 (Nat.zero_add _) rfl h2
end W4
