/-! WHAT EACH CALL COMES TO: for the class and for the reference alike. -/
abbrev okr (r : Int32) : Prop := 0 ≤ r.toInt ∧ r.toInt < 16
def rx (r : Int32) : Nat := r.toInt.toNat
def upz (z : Nat → Int) (i : Nat) (v : Int) : Nat → Int := fun j => if j = i then v else z j
/-- 0, 1 or 2 as it is done, a wrong argument, or another refusal; and the registers then -/
abbrev Vo : Type := Nat × (Nat → Int)
def keepV (z : Nat → Int) (r : Int32) (v : Int) : Vo := if v.natAbs < TOP then (0, upz z (rx r) v) else (2, z)
def s_set (z : Nat → Int) (r : Int32) (v : Int64) : Vo := if okr r then (0, upz z (rx r) v.toInt) else (1, z)
def s_move (z : Nat → Int) (r a : Int32) : Vo := if okr r ∧ okr a then (0, upz z (rx r) (z (rx a))) else (1, z)
def rk (m : Int32) (x y : Int) : Int := if m.toInt = 2 then x * y else if m.toInt = 1 then x - y else x + y
def s_reckon (z : Nat → Int) (r a b m : Int32) : Vo := if okr r ∧ okr a ∧ okr b ∧ 0 ≤ m.toInt ∧ m.toInt ≤ 2 then keepV z r (rk m (z (rx a)) (z (rx b))) else (1, z)
def dnb (m : Int32) (x y : Int) : Bool := decide (m.toInt < 2) && (neg x != neg y) && decide (x.natAbs % y.natAbs ≠ 0)
def dv (m : Int32) (x y : Int) : Int :=
  if m.toInt = 0 ∨ m.toInt = 2 then mkz (x.natAbs / y.natAbs + (if dnb m x y = true then 1 else 0)) (neg x != neg y)
  else if dnb m x y = true then mkz (y.natAbs - x.natAbs % y.natAbs) (neg y) else mkz (x.natAbs % y.natAbs) (neg x)
def s_divide (z : Nat → Int) (r a b m : Int32) : Vo := if okr r ∧ okr a ∧ okr b ∧ 0 ≤ m.toInt ∧ m.toInt ≤ 3 then (if z (rx b) = 0 then (2, z) else (0, upz z (rx r) (dv m (z (rx a)) (z (rx b))))) else (1, z)
/-- bits -/
def gg (m : Int32) (p q : Bool) : Bool := if m.toInt = 0 then p && q else if m.toInt = 1 then p || q else p ^^ q
def cbn (m : Int32) (a b : Bool) (x y : Nat) : Nat := Nat.bitwise (fun p q => gg m (p ^^ a) (q ^^ b) ^^ gg m a b) x y
def cmb (m : Int32) (x y : Int) : Int := uncore (cbn m (neg x) (neg y) (core x) (core y)) (gg m (neg x) (neg y))
def s_combine (z : Nat → Int) (r a b m : Int32) : Vo := if okr r ∧ okr a ∧ okr b ∧ 0 ≤ m.toInt ∧ m.toInt ≤ 2 then keepV z r (cmb m (z (rx a)) (z (rx b))) else (1, z)
def shz (n : Int) (x : Int) : Int := if n < 0 then uncore (core x / 2 ^ (-n).toNat) (neg x) else mkz (x.natAbs * 2 ^ n.toNat) (neg x)
def s_shift (z : Nat → Int) (r a n : Int32) : Vo := if okr r ∧ okr a ∧ -9000 ≤ n.toInt ∧ n.toInt ≤ 9000 then keepV z r (shz n.toInt (z (rx a))) else (1, z)
def pwz (n : Nat) (x : Int) : Int := mkz (x.natAbs ^ n) (neg x && decide (n % 2 = 1))
def s_power (z : Nat → Int) (r a n : Int32) : Vo := if okr r ∧ okr a ∧ 0 ≤ n.toInt ∧ n.toInt ≤ 8192 then keepV z r (pwz n.toInt.toNat (z (rx a))) else (1, z)
def isq : Nat → Nat
  | 0 => 0
  | x + 1 => if (isq x + 1) * (isq x + 1) ≤ x + 1 then isq x + 1 else isq x
theorem isq_ok : ∀ x, isq x * isq x ≤ x ∧ x < (isq x + 1) * (isq x + 1) := by
  intro x
  induction x with
  | zero => exact ⟨Nat.le_refl _, by decide⟩
  | succ x ih =>
    rw [isq]
    generalize isq x = s at ih ⊢
    by_cases h : (s + 1) * (s + 1) ≤ x + 1
    · rw [if_pos h]
      refine ⟨h, ?_⟩
      rw [show (s + 1 + 1) * (s + 1 + 1) = (s + 1) * (s + 1) + 2 * s + 3 by grind]
      omega
    · rw [if_neg h]
      omega
def s_root (z : Nat → Int) (r a : Int32) : Vo := if okr r ∧ okr a then (if z (rx a) < 0 then (2, z) else (0, upz z (rx r) (isq (z (rx a)).natAbs))) else (1, z)
def s_common (z : Nat → Int) (r a b : Int32) : Vo := if okr r ∧ okr a ∧ okr b then (0, upz z (rx r) (Nat.gcd (z (rx a)).natAbs (z (rx b)).natAbs)) else (1, z)
def prz (x y w : Int) : Int := (rst x w.natAbs ^ y.natAbs % w.natAbs : Nat)
def s_powerRest (z : Nat → Int) (r a b m : Int32) : Vo := if okr r ∧ okr a ∧ okr b ∧ okr m ∧ nbit (core (z (rx b))) ≤ 512 ∧ nbit (core (z (rx m))) ≤ 512 then (if z (rx b) < 0 ∨ z (rx m) ≤ 0 then (2, z) else (0, upz z (rx r) (prz (z (rx a)) (z (rx b)) (z (rx m))))) else (1, z)
/-- what read answers, and the registers then -/
def rdA (t : List Int32) (b : Int32) : Int := if flaw t b.toInt.toNat = -1 then (if value t b.toInt.toNat < TOP then -1 else 3001) else flaw t b.toInt.toNat
def rdZ (z : Nat → Int) (t : List Int32) (r b : Int32) : Nat → Int := if flaw t b.toInt.toNat = -1 ∧ value t b.toInt.toNat < TOP then upz z (rx r) (mkz (value t b.toInt.toNat) (hy t)) else z
abbrev okb (b : Int32) : Prop := 2 ≤ b.toInt ∧ b.toInt ≤ 36
/-- .. the text behind a turn: the page's first 3000, of a page written backwards -/
def trn (p : List Int32) : List Int32 := p.reverse.take 3000
/-! FRAMES that may throw once. -/
def Fz (S : List (Nat × Nat)) (o o' : xO) : Prop := o'.1 = o.1 ∧ (xc o' ≤ xc o + 1 ∧ xn o' ≤ xn o + 6) ∧ ∀ b, Out S b → xi o' b = xi o b ∧ xf o' b = xf o b
theorem Fr.fz {S : List (Nat × Nat)} {o o' : xO} (h : Fr S o o') : Fz S o o' := ⟨h.1, by have := h.z; omega, h.2.2⟩
theorem Fr.fzt {S : List (Nat × Nat)} {o o' : xO} (h : Fr S o o') : Fz S o (xth o') := ⟨h.1, by have := h.z; exact ⟨by show o'.2.2.2.2.1 + 1 ≤ _; have : xc o' = o'.2.2.2.2.1 := rfl; omega, by show o'.2.2.2.2.2 + 6 ≤ _; have : xn o' = o'.2.2.2.2.2 := rfl; omega⟩, h.2.2⟩
section FR1
variable {o o' : xO} {a n c : Nat}
theorem Out.one (h : c < a ∨ a + n ≤ c) : Out [(a, n)] c := ⟨h, trivial⟩
theorem Rx.fr1 {r : Nat} (h : Rx o r) (hf : Fr [(a, n)] o o') (hd : a + n ≤ r ∨ r + 2 ≤ a) : Rx o' r := h.fr hf (Out.one (by omega)) (Out.one (by omega))
theorem Rn.fr1 {r x : Nat} (h : Rn o r x) (hf : Fr [(a, n)] o o') (hd : a + n ≤ r ∨ r + 2 ≤ a) : Rn o' r x := h.fr hf (Out.one (by omega)) (Out.one (by omega))
theorem Wn.fr1 {w : Nat} {z : Int} (h : Wn o w z) (hf : Fr [(a, n)] o o') (hd : a + n ≤ w ∨ w + 3 ≤ a) : Wn o' w z := h.fr hf (Out.one (by omega)) (Out.one (by omega)) (Out.one (by omega))
theorem Fr.in1 {m : Nat} (h : Fr [(a, n)] o o') (h1 : c ≤ a) (h2 : a + n ≤ c + m) : Fr [(c, m)] o o' := h.up (fun b hb => by simp only [Out, and_true] at hb ⊢; omega)
/-! THE CLASS' OBJECT at X, 108 addresses long: its parts, their zones. -/
def ZX (o : xO) (X : Nat) : Prop := xk o X = (3, 0) ∧ xf o X 0 = .ref (X + 1) ∧ xf o X 1 = .ref (X + 2) ∧ xf o X 2 = .ref (X + 5) ∧ xf o X 3 = .ref (X + 7) ∧ xf o X 4 = .ref (X + 9) ∧ xf o X 5 = .ref (X + 16) ∧ xf o X 6 = .ref (X + 30) ∧ xf o X 7 = .ref (X + 42) ∧ xf o X 8 = .ref (X + 54) ∧ xf o X 9 = .ref (X + 56) ∧ xk o (X + 1) = (5, 16) ∧ ∀ i, i < 16 → xf o (X + 1) i = .ref (X + 60 + 3 * i)
def ZW (o : xO) (w : Nat) : Prop := ∃ z, Wn o w z
def ZD (o : xO) (d : Nat) : Prop := IsDv o d ∧ Rx o (d + 1) ∧ Rx o (d + 3) ∧ Rx o (d + 5)
def ZP (o : xO) (P : Nat) : Prop := IsPw o P ∧ Rx o (P + 1) ∧ Rx o (P + 3) ∧ PwX o P
def ZR (o : xO) (q : Nat) : Prop := IsRt o q ∧ Rx o (q + 1) ∧ RtX o q
def ZG (o : xO) (D : Nat) : Prop := IsDs o D ∧ Rx o (D + 1) ∧ DsX o D
def ZA (o : xO) (g : Nat) (p : List Int32) : Prop := Px o g p ∧ Rx o (g + 2)
def ZZ (o : xO) (X : Nat) (z : Nat → Int) : Prop := ∀ i, i < 16 → Wn o (X + 60 + 3 * i) (z i) ∧ (z i).natAbs < TOP
def WI (o : xO) (X : Nat) (z : Nat → Int) (t p : List Int32) : Prop := ZX o X ∧ ZW o (X + 2) ∧ Rx o (X + 5) ∧ Rx o (X + 7) ∧ ZD o (X + 9) ∧ ZP o (X + 16) ∧ ZR o (X + 30) ∧ ZG o (X + 42) ∧ Tx o (X + 54) t ∧ ZA o (X + 56) p ∧ ZZ o X z
theorem ZX.fr1 {X : Nat} (h : ZX o X) (hf : Fr [(a, n)] o o') (hd : X + 2 ≤ a) : ZX o' X := by
  obtain ⟨h0, h1, h2, h3, h4, h5, h6, h7, h8, h9, h10, h11, h12⟩ := h
  have o0 : Out [(a, n)] X := Out.one (by omega)
  have o1 : Out [(a, n)] (X + 1) := Out.one (by omega)
  exact ⟨by rw [hf.k]; exact h0, by rw [hf.f o0]; exact h1, by rw [hf.f o0]; exact h2, by rw [hf.f o0]; exact h3, by rw [hf.f o0]; exact h4, by rw [hf.f o0]; exact h5, by rw [hf.f o0]; exact h6, by rw [hf.f o0]; exact h7, by rw [hf.f o0]; exact h8, by rw [hf.f o0]; exact h9, by rw [hf.f o0]; exact h10, by rw [hf.k]; exact h11, fun i hi => by rw [hf.f o1]; exact h12 i hi⟩
theorem ZW.fr1 {w : Nat} (h : ZW o w) (hf : Fr [(a, n)] o o') (hd : a + n ≤ w ∨ w + 3 ≤ a) : ZW o' w := h.elim (fun z hz => ⟨z, hz.fr1 hf hd⟩)
theorem ZD.fr1 {d : Nat} (h : ZD o d) (hf : Fr [(a, n)] o o') (hd : a + n ≤ d ∨ d + 7 ≤ a) : ZD o' d := ⟨h.1.fr hf (Out.one (by omega)), h.2.1.fr1 hf (by omega), h.2.2.1.fr1 hf (by omega), h.2.2.2.fr1 hf (by omega)⟩
theorem ZP.fr1 {P : Nat} (h : ZP o P) (hf : Fr [(a, n)] o o') (hd : a + n ≤ P ∨ P + 14 ≤ a) : ZP o' P :=
  ⟨h.1.fr hf (Out.one (by omega)) (Out.one (by omega)), h.2.1.fr1 hf (by omega), h.2.2.1.fr1 hf (by omega), h.2.2.2.1.fr1 hf (by omega), h.2.2.2.2.1.fr1 hf (by omega), h.2.2.2.2.2.1.fr1 hf (by omega), h.2.2.2.2.2.2.fr1 hf (by omega)⟩
theorem ZR.fr1 {q : Nat} (h : ZR o q) (hf : Fr [(a, n)] o o') (hd : a + n ≤ q ∨ q + 12 ≤ a) : ZR o' q :=
  ⟨h.1.fr hf (Out.one (by omega)) (Out.one (by omega)), h.2.1.fr1 hf (by omega), h.2.2.1.fr1 hf (by omega), h.2.2.2.1.fr1 hf (by omega), h.2.2.2.2.1.fr1 hf (by omega), h.2.2.2.2.2.fr1 hf (by omega)⟩
theorem ZG.fr1 {q : Nat} (h : ZG o q) (hf : Fr [(a, n)] o o') (hd : a + n ≤ q ∨ q + 12 ≤ a) : ZG o' q :=
  ⟨h.1.fr hf (Out.one (by omega)) (Out.one (by omega)), h.2.1.fr1 hf (by omega), h.2.2.1.fr1 hf (by omega), h.2.2.2.1.fr1 hf (by omega), h.2.2.2.2.1.fr1 hf (by omega), h.2.2.2.2.2.fr1 hf (by omega)⟩
theorem Tx.fr1 {t : Nat} {l : List Int32} (h : Tx o t l) (hf : Fr [(a, n)] o o') (hd : a + n ≤ t ∨ t + 2 ≤ a) : Tx o' t l := h.fr hf (Out.one (by omega)) (Out.one (by omega))
theorem ZA.fr1 {g : Nat} {l : List Int32} (h : ZA o g l) (hf : Fr [(a, n)] o o') (hd : a + n ≤ g ∨ g + 4 ≤ a) : ZA o' g l := ⟨h.1.fr hf (Out.one (by omega)) (Out.one (by omega)), h.2.fr1 hf (by omega)⟩
theorem ZZ.fr1 {X : Nat} {z : Nat → Int} (h : ZZ o X z) (hf : Fr [(a, n)] o o') (hd : a + n ≤ X + 60) : ZZ o' X z := fun i hi => ⟨(h i hi).1.fr1 hf (by omega), (h i hi).2⟩
end FR1
def WS (o0 o : xO) (X : Nat) (z : Nat → Int) (t p : List Int32) : Prop := Fr [(X, 108)] o0 o ∧ WI o X z t p
section WSS
variable {o0 o o' : xO} {X : Nat} {z : Nat → Int} {t p : List Int32}
theorem WS.start (h : WI o X z t p) : WS o o X z t p := ⟨Fr.refl _ _, h⟩
theorem WS.zw (h : WS o0 o X z t p) {a n : Nat} (hf : Fr [(a, n)] o o') (h1 : X + 2 ≤ a) (h2 : a + n ≤ X + 5) (hz : ZW o' (X + 2)) : WS o0 o' X z t p := by
  obtain ⟨hb, g0, g1, g2, g3, g4, g5, g6, g7, g8, g9, g10⟩ := h
  exact ⟨hb.trans (hf.in1 (by omega) (by omega)), g0.fr1 hf (by omega), hz, g2.fr1 hf (by omega), g3.fr1 hf (by omega), g4.fr1 hf (by omega), g5.fr1 hf (by omega), g6.fr1 hf (by omega), g7.fr1 hf (by omega), g8.fr1 hf (by omega), g9.fr1 hf (by omega), g10.fr1 hf (by omega)⟩
theorem WS.left (h : WS o0 o X z t p) {a n : Nat} (hf : Fr [(a, n)] o o') (h1 : X + 5 ≤ a) (h2 : a + n ≤ X + 7) (hz : Rx o' (X + 5)) : WS o0 o' X z t p := by
  obtain ⟨hb, g0, g1, g2, g3, g4, g5, g6, g7, g8, g9, g10⟩ := h
  exact ⟨hb.trans (hf.in1 (by omega) (by omega)), g0.fr1 hf (by omega), g1.fr1 hf (by omega), hz, g3.fr1 hf (by omega), g4.fr1 hf (by omega), g5.fr1 hf (by omega), g6.fr1 hf (by omega), g7.fr1 hf (by omega), g8.fr1 hf (by omega), g9.fr1 hf (by omega), g10.fr1 hf (by omega)⟩
theorem WS.right (h : WS o0 o X z t p) {a n : Nat} (hf : Fr [(a, n)] o o') (h1 : X + 7 ≤ a) (h2 : a + n ≤ X + 9) (hz : Rx o' (X + 7)) : WS o0 o' X z t p := by
  obtain ⟨hb, g0, g1, g2, g3, g4, g5, g6, g7, g8, g9, g10⟩ := h
  exact ⟨hb.trans (hf.in1 (by omega) (by omega)), g0.fr1 hf (by omega), g1.fr1 hf (by omega), g2.fr1 hf (by omega), hz, g4.fr1 hf (by omega), g5.fr1 hf (by omega), g6.fr1 hf (by omega), g7.fr1 hf (by omega), g8.fr1 hf (by omega), g9.fr1 hf (by omega), g10.fr1 hf (by omega)⟩
theorem WS.zd (h : WS o0 o X z t p) {a n : Nat} (hf : Fr [(a, n)] o o') (h1 : X + 9 ≤ a) (h2 : a + n ≤ X + 16) (hz : ZD o' (X + 9)) : WS o0 o' X z t p := by
  obtain ⟨hb, g0, g1, g2, g3, g4, g5, g6, g7, g8, g9, g10⟩ := h
  exact ⟨hb.trans (hf.in1 (by omega) (by omega)), g0.fr1 hf (by omega), g1.fr1 hf (by omega), g2.fr1 hf (by omega), g3.fr1 hf (by omega), hz, g5.fr1 hf (by omega), g6.fr1 hf (by omega), g7.fr1 hf (by omega), g8.fr1 hf (by omega), g9.fr1 hf (by omega), g10.fr1 hf (by omega)⟩
theorem WS.zp (h : WS o0 o X z t p) {a n : Nat} (hf : Fr [(a, n)] o o') (h1 : X + 16 ≤ a) (h2 : a + n ≤ X + 30) (hz : ZP o' (X + 16)) : WS o0 o' X z t p := by
  obtain ⟨hb, g0, g1, g2, g3, g4, g5, g6, g7, g8, g9, g10⟩ := h
  exact ⟨hb.trans (hf.in1 (by omega) (by omega)), g0.fr1 hf (by omega), g1.fr1 hf (by omega), g2.fr1 hf (by omega), g3.fr1 hf (by omega), g4.fr1 hf (by omega), hz, g6.fr1 hf (by omega), g7.fr1 hf (by omega), g8.fr1 hf (by omega), g9.fr1 hf (by omega), g10.fr1 hf (by omega)⟩
theorem WS.zr (h : WS o0 o X z t p) {a n : Nat} (hf : Fr [(a, n)] o o') (h1 : X + 30 ≤ a) (h2 : a + n ≤ X + 42) (hz : ZR o' (X + 30)) : WS o0 o' X z t p := by
  obtain ⟨hb, g0, g1, g2, g3, g4, g5, g6, g7, g8, g9, g10⟩ := h
  exact ⟨hb.trans (hf.in1 (by omega) (by omega)), g0.fr1 hf (by omega), g1.fr1 hf (by omega), g2.fr1 hf (by omega), g3.fr1 hf (by omega), g4.fr1 hf (by omega), g5.fr1 hf (by omega), hz, g7.fr1 hf (by omega), g8.fr1 hf (by omega), g9.fr1 hf (by omega), g10.fr1 hf (by omega)⟩
theorem WS.zg (h : WS o0 o X z t p) {a n : Nat} (hf : Fr [(a, n)] o o') (h1 : X + 42 ≤ a) (h2 : a + n ≤ X + 54) (hz : ZG o' (X + 42)) : WS o0 o' X z t p := by
  obtain ⟨hb, g0, g1, g2, g3, g4, g5, g6, g7, g8, g9, g10⟩ := h
  exact ⟨hb.trans (hf.in1 (by omega) (by omega)), g0.fr1 hf (by omega), g1.fr1 hf (by omega), g2.fr1 hf (by omega), g3.fr1 hf (by omega), g4.fr1 hf (by omega), g5.fr1 hf (by omega), g6.fr1 hf (by omega), hz, g8.fr1 hf (by omega), g9.fr1 hf (by omega), g10.fr1 hf (by omega)⟩
theorem WS.tx {t2 : List Int32} (h : WS o0 o X z t p) {a n : Nat} (hf : Fr [(a, n)] o o') (h1 : X + 54 ≤ a) (h2 : a + n ≤ X + 56) (hz : Tx o' (X + 54) t2) : WS o0 o' X z t2 p := by
  obtain ⟨hb, g0, g1, g2, g3, g4, g5, g6, g7, g8, g9, g10⟩ := h
  exact ⟨hb.trans (hf.in1 (by omega) (by omega)), g0.fr1 hf (by omega), g1.fr1 hf (by omega), g2.fr1 hf (by omega), g3.fr1 hf (by omega), g4.fr1 hf (by omega), g5.fr1 hf (by omega), g6.fr1 hf (by omega), g7.fr1 hf (by omega), hz, g9.fr1 hf (by omega), g10.fr1 hf (by omega)⟩
theorem WS.za {p2 : List Int32} (h : WS o0 o X z t p) {a n : Nat} (hf : Fr [(a, n)] o o') (h1 : X + 56 ≤ a) (h2 : a + n ≤ X + 60) (hz : ZA o' (X + 56) p2) : WS o0 o' X z t p2 := by
  obtain ⟨hb, g0, g1, g2, g3, g4, g5, g6, g7, g8, g9, g10⟩ := h
  exact ⟨hb.trans (hf.in1 (by omega) (by omega)), g0.fr1 hf (by omega), g1.fr1 hf (by omega), g2.fr1 hf (by omega), g3.fr1 hf (by omega), g4.fr1 hf (by omega), g5.fr1 hf (by omega), g6.fr1 hf (by omega), g7.fr1 hf (by omega), g8.fr1 hf (by omega), hz, g10.fr1 hf (by omega)⟩
theorem WS.reg (h : WS o0 o X z t p) {i : Nat} {v : Int} (hi : i < 16) (hf : Fr [(X + 60 + 3 * i, 3)] o o') (hw : Wn o' (X + 60 + 3 * i) v) (hv : v.natAbs < TOP) : WS o0 o' X (upz z i v) t p := by
  obtain ⟨hb, g0, g1, g2, g3, g4, g5, g6, g7, g8, g9, g10⟩ := h
  refine ⟨hb.trans (hf.in1 (by omega) (by omega)), g0.fr1 hf (by omega), g1.fr1 hf (by omega), g2.fr1 hf (by omega), g3.fr1 hf (by omega), g4.fr1 hf (by omega), g5.fr1 hf (by omega), g6.fr1 hf (by omega), g7.fr1 hf (by omega), g8.fr1 hf (by omega), g9.fr1 hf (by omega), fun j hj => ?_⟩
  unfold upz
  by_cases h : j = i
  · subst h; rw [if_pos rfl]; exact ⟨hw, hv⟩
  · rw [if_neg h]; exact ⟨(g10 j hj).1.fr1 hf (by omega), (g10 j hj).2⟩
theorem WS.x (h : WS o0 o X z t p) : ZX o X := h.2.1
theorem WS.w (h : WS o0 o X z t p) {r : Int32} (hr : okr r) : Wn o (X + 60 + 3 * rx r) (z (rx r)) := (h.2.2.2.2.2.2.2.2.2.2.2 (rx r) (by unfold rx; omega)).1
theorem WS.top (h : WS o0 o X z t p) {r : Int32} (hr : okr r) : (z (rx r)).natAbs < TOP := (h.2.2.2.2.2.2.2.2.2.2.2 (rx r) (by unfold rx; omega)).2
theorem okr.lt {r : Int32} (hr : okr r) : rx r < 16 := by unfold rx; omega
/-- how a void call ends -/
def WV (o : xO) (X : Nat) (sp : Vo) (E : Nat) (t p : List Int32) (r : xR) (o' : xO) : Prop := Fz [(X, 108)] o o' ∧ WI o' X sp.2 t p ∧ ((sp.1 = 0 ∧ r = .inl none) ∨ (sp.1 = 1 ∧ r = .inr 0) ∨ (sp.1 = 2 ∧ r = .inr E))
/-- how an asking call ends -/
def WA (o : xO) (X : Nat) (z' : Nat → Int) (t' p' : List Int32) (k : Nat) (v : Value) (r : xR) (o' : xO) : Prop := Fz [(X, 108)] o o' ∧ WI o' X z' t' p' ∧ ((k = 0 ∧ r = .inl (some v)) ∨ (k = 1 ∧ r = .inr 0))
theorem WS.v0 {sp : Vo} {E : Nat} {z' : Nat → Int} (h : WS o0 o X z' t p) (he : sp = (0, z')) : WV o0 X sp E t p (.inl none) o := by subst he; exact ⟨h.1.fz, h.2, Or.inl ⟨rfl, rfl⟩⟩
theorem WS.v1 {sp : Vo} {E : Nat} (h : WS o0 o X z t p) (he : sp = (1, z)) : WV o0 X sp E t p (.inr 0) (xth o) := by subst he; exact ⟨h.1.fzt, h.2, Or.inr (Or.inl ⟨rfl, rfl⟩)⟩
theorem WS.v2 {sp : Vo} {E : Nat} (h : WS o0 o X z t p) (he : sp = (2, z)) : WV o0 X sp E t p (.inr E) (xth o) := by subst he; exact ⟨h.1.fzt, h.2, Or.inr (Or.inr ⟨rfl, rfl⟩)⟩
theorem WS.a0 {k : Nat} {v : Value} (h : WS o0 o X z t p) (he : k = 0) : WA o0 X z t p k v (.inl (some v)) o := ⟨h.1.fz, h.2, Or.inl ⟨he, rfl⟩⟩
theorem WS.a1 {k : Nat} {v : Value} (h : WS o0 o X z t p) (he : k = 1) : WA o0 X z t p k v (.inr 0) (xth o) := ⟨h.1.fzt, h.2, Or.inr ⟨he, rfl⟩⟩
end WSS
section RWX
variable {Q : xR → xO → Prop} {y : Nat} {is : List xI} {lv st : List Value} {o o1 : xO} {i : Instr} {len a b : Nat} {v : Value}
/-- a call that throws -/
theorem RW.cx {E : Nat} {args rest : List Value} (hg : xgo i b = 5) (h1 : xtk (xnr v) [] st = some (args, rest)) (h2 : xrc b o args = true) (h3 : Nat.ble (xsum rest) 8 = true) (h4 : Nat.ble (xsl args).length (xml a) = true) (hc : Ct a args o (fun r o' => r = .inr E ∧ o' = o1)) (hh : xhd y = []) (k : Q (.inr E) o1) : RW Q y ((i, len, v, a, b) :: is) lv st o :=
  RW.ca args rest hg h1 h2 h3 h4 hc (fun r o' h => by
    obtain ⟨rfl, rfl⟩ := h
    show match xfn (xhd y) E with | some h => _ | none => _
    rw [hh]
    exact ⟨rfl, k⟩)
/-- a call that may throw -/
theorem RW.cw {Q1 : xR → xO → Prop} {args rest : List Value} (hg : xgo i b = 5) (h1 : xtk (xnr v) [] st = some (args, rest)) (h2 : xrc b o args = true) (h3 : Nat.ble (xsum rest) 8 = true) (h4 : Nat.ble (xsl args).length (xml a) = true) (hc : Ct a args o Q1) (hh : xhd y = []) (k1 : ∀ w o', Q1 (.inl w) o' → RW Q y is lv (w.toList ++ rest) o') (k2 : ∀ E o', Q1 (.inr E) o' → Q (.inr E) o') : RW Q y ((i, len, v, a, b) :: is) lv st o :=
  RW.ca args rest hg h1 h2 h3 h4 hc (fun r o' h => by
    cases r with
    | inl w => exact k1 w o' h
    | inr E =>
      show match xfn (xhd y) E with | some h => _ | none => _
      rw [hh]
      exact ⟨rfl, k2 E o' h⟩)
theorem RW.aa {r k n q : Nat} {j : Int32} {s : List Value} (hk : xk o r = (5, n)) (hj : j.toInt = (k : Int)) (hn : k < n) (hv : xf o r k = .ref q) (kk : RW Q y is lv (.ref q :: s) o) : RW Q y ((.aaload, len, v, a, b) :: is) lv (.int j :: .ref r :: s) o := by
  obtain ⟨h1, h2⟩ := xin_of hj hn
  refine RW.hp rfl (by unfold xhp; dsimp only; rw [hk, if_pos ⟨rfl, h1⟩, h2, hv]; rfl) kk
theorem RW.al5 {r n : Nat} {s : List Value} (hk : xk o r = (5, n)) (kk : RW Q y is lv (.int (Int32.ofNat n) :: s) o) : RW Q y ((.arraylength, len, v, a, b) :: is) lv (.ref r :: s) o :=
  RW.hp rfl (by unfold xhp; dsimp only; rw [hk, if_pos (Or.inr (Or.inr (Or.inr rfl)))]) kk
end RWX
