/-! THE REFERENCE'S OBJECT at Y, 14 addresses long; load, keep. -/
def MB (o : xO) (Y : Nat) : Prop := xk o Y = (3, 9) ∧ (xf o Y 1 = .ref (Y + 1) ∧ xf o Y 2 = .ref (Y + 2) ∧ xf o Y 3 = .ref (Y + 3) ∧ xf o Y 4 = .ref (Y + 4) ∧ xf o Y 5 = .ref (Y + 5) ∧ xf o Y 6 = .ref (Y + 6) ∧ xf o Y 7 = .ref (Y + 7) ∧ xf o Y 8 = .ref (Y + 8) ∧ xf o Y 9 = .ref (Y + 9) ∧ xf o Y 10 = .ref (Y + 10) ∧ xf o Y 11 = .ref (Y + 11) ∧ xf o Y 13 = .ref (Y + 12) ∧ xf o Y 15 = .ref (Y + 13)) ∧
  (xk o (Y + 1) = (1, 8208) ∧ xk o (Y + 2) = (1, 16) ∧ xk o (Y + 3) = (1, 1200) ∧ xk o (Y + 4) = (1, 1200) ∧ xk o (Y + 5) = (1, 1200) ∧ xk o (Y + 6) = (1, 1200) ∧ xk o (Y + 7) = (1, 1200) ∧ xk o (Y + 8) = (1, 2400) ∧ xk o (Y + 9) = (1, 1200) ∧ xk o (Y + 10) = (1, 1200) ∧ xk o (Y + 11) = (1, 1200) ∧ xk o (Y + 12) = (1, 3000) ∧ xk o (Y + 13) = (1, 8200))
def Mo (o : xO) (a c x : Nat) : Prop := xi o a c = Int32.ofInt (n16 x : Nat) ∧ ∀ k, k < n16 x → xi o a (c + k + 1) = Int32.ofInt (d16 x k : Nat)
def Rm (o : xO) (Y : Nat) (z : Nat → Int) : Prop := ∀ i, i < 16 → Mo o (Y + 1) (513 * i) (z i).natAbs ∧ (z i).natAbs < TOP ∧ xi o (Y + 2) i = Int32.ofInt (z i).sign
def Tm (o : xO) (Y : Nat) (t : List Int32) : Prop := xf o Y 14 = .int (Int32.ofInt (t.length : Nat)) ∧ t.length ≤ 3000 ∧ ∀ i, i < t.length → xi o (Y + 12) i = t.getD i 0
def Pm (o : xO) (Y : Nat) (p : List Int32) : Prop := xf o Y 16 = .int (Int32.ofInt (p.length : Nat)) ∧ p.length ≤ 8193 ∧ ∀ i, i < p.length → xi o (Y + 13) i = p.reverse.getD i 0
def MI (o : xO) (Y : Nat) (z : Nat → Int) (t p : List Int32) (c : Nat) : Prop := MB o Y ∧ Rm o Y z ∧ Tm o Y t ∧ Pm o Y p ∧ xf o Y 0 = .int (Int32.ofInt (c : Nat))
def MS (o0 o : xO) (Y : Nat) (z : Nat → Int) (t p : List Int32) (c : Nat) : Prop := Fr [(Y, 14)] o0 o ∧ MI o Y z t p c
section MSS
variable {o0 o o' : xO} {Y c a n : Nat} {z : Nat → Int} {t p : List Int32}
theorem MB.fr1 (h : MB o Y) (hf : Fr [(a, n)] o o') (h1 : a + n ≤ Y ∨ Y < a) : MB o' Y := by
  have o0 : Out [(a, n)] Y := Out.one (by omega)
  have e : ∀ j, xf o' Y j = xf o Y j := hf.f o0
  have k : ∀ j, xk o' j = xk o j := fun j => hf.k
  unfold MB
  simp only [e, k]
  exact h
theorem MB.pf (h : MB o Y) {j : Nat} {v : Value} (hj : j = 0 ∨ j = 12 ∨ j = 14 ∨ j = 16) : MB (xpf o Y j v) Y := by
  have e : ∀ i, i ≠ j → xf (xpf o Y j v) Y i = xf o Y i := fun i hi => xpf_ne (fun _ => hi)
  obtain ⟨h0, ⟨a1, a2, a3, a4, a5, a6, a7, a8, a9, a10, a11, a12, a13⟩, h2⟩ := h
  exact ⟨h0, ⟨by rw [e _ (by omega)]; exact a1, by rw [e _ (by omega)]; exact a2, by rw [e _ (by omega)]; exact a3, by rw [e _ (by omega)]; exact a4, by rw [e _ (by omega)]; exact a5, by rw [e _ (by omega)]; exact a6, by rw [e _ (by omega)]; exact a7, by rw [e _ (by omega)]; exact a8, by rw [e _ (by omega)]; exact a9, by rw [e _ (by omega)]; exact a10, by rw [e _ (by omega)]; exact a11, by rw [e _ (by omega)]; exact a12, by rw [e _ (by omega)]; exact a13⟩, h2⟩
theorem Mo.of {x d : Nat} (h : Mo o a d x) (hi : ∀ j, d ≤ j → j ≤ d + n16 x → xi o' a j = xi o a j) : Mo o' a d x := ⟨by rw [hi d (by omega) (by omega)]; exact h.1, fun k hk => by rw [hi _ (by omega) (by omega)]; exact h.2 k hk⟩
theorem Rm.fr1 (h : Rm o Y z) (hf : Fr [(a, n)] o o') (h1 : a + n ≤ Y + 1 ∨ Y + 2 < a) : Rm o' Y z := fun i hi => ⟨(h i hi).1.of (fun j _ _ => by rw [hf.i (Out.one (by omega))]), (h i hi).2.1, by rw [hf.i (Out.one (by omega))]; exact (h i hi).2.2⟩
theorem MI.fr1 (h : MI o Y z t p c) (hf : Fr [(a, n)] o o') (h1 : a + n ≤ Y ∨ (Y + 2 < a ∧ a + n ≤ Y + 12) ∨ Y + 14 ≤ a) : MI o' Y z t p c := by
  obtain ⟨g0, g1, g2, g3, g4⟩ := h
  have oY : Out [(a, n)] Y := Out.one (by omega)
  have o12 : Out [(a, n)] (Y + 12) := Out.one (by omega)
  have o13 : Out [(a, n)] (Y + 13) := Out.one (by omega)
  exact ⟨g0.fr1 hf (by omega), g1.fr1 hf (by omega), ⟨by rw [hf.f oY]; exact g2.1, g2.2.1, fun i hi => by rw [hf.i o12]; exact g2.2.2 i hi⟩, ⟨by rw [hf.f oY]; exact g3.1, g3.2.1, fun i hi => by rw [hf.i o13]; exact g3.2.2 i hi⟩, by rw [hf.f oY]; exact g4⟩
theorem MS.scr (h : MS o0 o Y z t p c) (hf : Fr [(a, n)] o o') (h1 : Y + 2 < a) (h2 : a + n ≤ Y + 12) : MS o0 o' Y z t p c := ⟨h.1.trans (hf.in1 (by omega) (by omega)), h.2.fr1 hf (by omega)⟩
theorem MS.start (h : MI o Y z t p c) : MS o o Y z t p c := ⟨Fr.refl _ _, h⟩
/-- the code is put -/
theorem MS.code (h : MS o0 o Y z t p c) (c2 : Nat) : MS o0 (xpf o Y 0 (.int (Int32.ofInt (c2 : Nat)))) Y z t p c2 := by
  obtain ⟨hf, g0, g1, g2, g3, g4⟩ := h
  exact ⟨hf.trans (Fr.pf.in1 (by omega) (by omega)), g0.pf (Or.inl rfl), g1.fr1 Fr.pf (by omega), ⟨(xpf_ne (fun _ => by decide)).trans g2.1, g2.2⟩, ⟨(xpf_ne (fun _ => by decide)).trans g3.1, g3.2⟩, xpf_same⟩
/-- the field sign is put -/
theorem MS.sgn (h : MS o0 o Y z t p c) (v : Value) : MS o0 (xpf o Y 12 v) Y z t p c := by
  obtain ⟨hf, g0, g1, g2, g3, g4⟩ := h
  exact ⟨hf.trans (Fr.pf.in1 (by omega) (by omega)), g0.pf (Or.inr (Or.inl rfl)), g1.fr1 Fr.pf (by omega), ⟨(xpf_ne (fun _ => by decide)).trans g2.1, g2.2⟩, ⟨(xpf_ne (fun _ => by decide)).trans g3.1, g3.2⟩, (xpf_ne (fun _ => by decide)).trans g4⟩
theorem top_n16 {x : Nat} : n16 x ≤ 512 ↔ x < TOP := by rw [n16_le, b16]; exact Iff.rfl
theorem i_mul {i j : Int32} {a b : Nat} (hi : i.toInt = (a : Int)) (hj : j.toInt = (b : Int)) (h : a * b < 2147483648) : (i * j).toInt = ((a * b : Nat) : Int) := by
  rw [i_of hi, i_of hj, ii_mul, ← Int.natCast_mul, iu h]
theorem c_load {r : Int32} {k a L x : Nat} (h : MB o Y) (hr : r.toInt = (k : Int)) (hk : k < 16) (hx : Mo o (Y + 1) (513 * k) x) (hn : n16 x ≤ 512) (ha : xk o a = (1, L)) (hL : 513 ≤ L) (haY : a ≠ Y) (haY1 : a ≠ Y + 1) :
    Cv y_M_load [.ref Y, .int r, .ref a] o (fun o' => Fr [(a, 1)] o o' ∧ Mn o' a L x) := by
  have oY : Out [(a, 1)] Y := Out.one (by omega)
  have oY1 : Out [(a, 1)] (Y + 1) := Out.one (by omega)
  have hm : (513 * r : Int32).toInt = ((513 * k : Nat) : Int) := i_mul rfl hr (by omega)
  have loop : ∀ q j (iw : Int32) w, j + q = n16 x + 1 → iw.toInt = (j : Int) → Fr [(a, 1)] o w → (∀ i, i < j → xi w a i = xi o (Y + 1) (513 * k + i)) → RW (fun r o' => r = .inl none ∧ (Fr [(a, 1)] o o' ∧ Mn o' a L x)) y_M_load (xbk y_M_load 2) [.ref Y, .int r, .ref a, .int iw] [] w := by
    intro q
    induction q with
    | zero =>
      intro j iw w hj hi hf hw
      have hY := h.fr1 hf (by omega)
      refine RW.ps 2 rfl ?_
      refine RW.gf hY.1 hY.2.1.1 ?_
      refine RW.ps 3 rfl ?_
      refine RW.ia hY.2.2.1 hm (by omega) ?_
      rw [hf.i oY1, hx.1]
      refine RW.icm (fun _ => ?_) (fun k2 => ?_)
      · refine RW.re rfl rfl ⟨rfl, hf, hf.k.trans ha, by omega, n16_le.mp (Nat.le_refl _), ?_, fun i hik => ?_⟩
        · rw [hw 0 (by omega)]; exact hx.1
        · rw [hw (i + 1) (by omega)]; exact hx.2 i hik
      · rw [xi_gt, iu (by omega), hi] at k2; omega
    | succ q ih =>
      intro j iw w hj hi hf hw
      have hY := h.fr1 hf (by omega)
      refine RW.ps 2 rfl ?_
      refine RW.gf hY.1 hY.2.1.1 ?_
      refine RW.ps 3 rfl ?_
      refine RW.ia hY.2.2.1 hm (by omega) ?_
      rw [hf.i oY1, hx.1]
      refine RW.icm (fun k2 => ?_) (fun _ => ?_)
      · rw [xi_gt, iu (by omega), hi] at k2; omega
      refine RW.ps 3 rfl ?_
      refine RW.gf hY.1 hY.2.1.1 ?_
      refine RW.ps 5 rfl ?_
      refine RW.ia hY.2.2.1 (i_add hm hi (by omega)) (by omega) ?_
      rw [hf.i oY1]
      refine RW.ist (hf.k.trans ha) hi (by omega) ?_
      refine RW.ps 1 rfl ?_
      refine RW.go ?_
      refine ih (j + 1) (iw + 1) _ (by omega) (i_succ hi (by omega)) hf.pi1 (fun i hij => ?_)
      by_cases hij2 : i = j
      · subst hij2; exact xpi_same
      · rw [xpi_ne (fun _ => hij2)]; exact hw i (by omega)
  refine RW.ps 2 rfl ?_
  exact loop (n16 x + 1) 0 0 o (Nat.zero_add _) rfl (Fr.refl _ _) (fun j hj => absurd hj (Nat.not_lt_zero j))
/-- a row becomes a register -/
theorem c_keep {r sw : Int32} {k a L : Nat} {v : Int} (h : MS o0 o Y z t p c) (hr : r.toInt = (k : Int)) (hk : k < 16) (ha : Mn o a L v.natAbs) (hL : L ≤ 9000) (haY : a ≠ Y + 1) (haY2 : a ≠ Y + 2) (hv : v.natAbs < TOP) (hs : v ≠ 0 → sw = Int32.ofInt v.sign) :
    Cv y_M_keep [.ref Y, .int r, .ref a, .int sw] o (fun o' => MS o0 o' Y (upz z k v) t p c) := by
  have hn := top_n16.mpr hv
  have haL := ha.2.1
  have hm : (513 * r : Int32).toInt = ((513 * k : Nat) : Int) := i_mul rfl hr (by omega)
  generalize hx : v.natAbs = x at *
  have hB := h.2.1
  have loop : ∀ q j (iw : Int32) w, j + q = n16 x + 1 → iw.toInt = (j : Int) → Fr [(Y + 1, 1)] o w → (∀ i, i < j → xi w (Y + 1) (513 * k + i) = xi o a i) → (∀ i, i < 513 * k ∨ 513 * k + 513 ≤ i → xi w (Y + 1) i = xi o (Y + 1) i) → RW (fun r o' => r = .inl none ∧ MS o0 o' Y (upz z k v) t p c) y_M_keep (xbk y_M_keep 3) [.ref Y, .int r, .ref a, .int sw, .int iw] [] w := by
    intro q
    induction q with
    | zero =>
      intro j iw w hj hi hf hw hw2
      have oa : Out [(Y + 1, 1)] a := Out.one (by omega)
      have hY := hB
      have oY : Out [(Y + 1, 1)] Y := Out.one (by omega)
      refine RW.ps 3 rfl ?_
      refine RW.ia (hf.k.trans ha.1) i0n (by omega) ?_
      rw [hf.i oa, ha.2.2.2.1]
      refine RW.icm (fun _ => ?_) (fun k2 => ?_)
      · have h50 : ∀ s : Int32, s = Int32.ofInt v.sign → RW (fun r o' => r = .inl none ∧ MS o0 o' Y (upz z k v) t p c) y_M_keep (xbk y_M_keep 50) [.ref Y, .int r, .ref a, .int sw, .int iw] [.int s, .int r, .ref (Y + 2)] w := by
          intro s hs
          subst hs
          refine RW.ist (hf.k.trans hY.2.2.2.1) hr (by omega) ?_
          refine RW.re rfl rfl ⟨rfl, ?_⟩
          obtain ⟨hf0, g0, g1, g2, g3, g4⟩ := h
          have f2 : Fr [(Y + 2, 1)] w (xpi w (Y + 2) k (Int32.ofInt v.sign)) := Fr.pi
          have f3 : Fr [(Y + 1, 2)] o (xpi w (Y + 2) k (Int32.ofInt v.sign)) := (hf.in1 (by omega) (by omega)).trans (f2.in1 (by omega) (by omega))
          refine ⟨hf0.trans (f3.in1 (by omega) (by omega)), g0.fr1 f3 (by omega), fun i hi => ?_, ⟨by rw [f3.f (Out.one (by omega))]; exact g2.1, g2.2.1, fun i hi => by rw [f3.i (Out.one (by omega))]; exact g2.2.2 i hi⟩, ⟨by rw [f3.f (Out.one (by omega))]; exact g3.1, g3.2.1, fun i hi => by rw [f3.i (Out.one (by omega))]; exact g3.2.2 i hi⟩, by rw [f3.f (Out.one (by omega))]; exact g4⟩
          have e1 : ∀ i, xi (xpi w (Y + 2) k (Int32.ofInt v.sign)) (Y + 1) i = xi w (Y + 1) i := fun i => xpi_ne (fun e => absurd e (by omega))
          unfold upz
          by_cases hik : i = k
          · subst hik
            rw [if_pos rfl, hx]
            refine ⟨⟨?_, fun q hq => ?_⟩, hv, xpi_same⟩
            · rw [e1]; exact (hw 0 (by omega)).trans ha.2.2.2.1
            · rw [e1]; exact (hw (q + 1) (by omega)).trans (ha.2.2.2.2 q hq)
          · rw [if_neg hik]
            obtain ⟨q1, q2, q3⟩ := g1 i hi
            have := top_n16.mpr q2
            refine ⟨q1.of (fun j hj1 hj2 => ?_), q2, ?_⟩
            · rw [e1]; exact hw2 j (by omega)
            · rw [xpi_ne (fun _ => hik), hf.i (Out.one (by omega))]; exact q3
        refine RW.ps 1 rfl ?_
        refine RW.gf (hf.k.trans hY.1) ((hf.f oY 2).trans hY.2.1.2.1) ?_
        refine RW.ps 3 rfl ?_
        refine RW.ia (hf.k.trans ha.1) i0n (by omega) ?_
        rw [hf.i oa, ha.2.2.2.1]
        refine RW.ifc (fun k3 => ?_) (fun k3 => ?_)
        · rw [xi_ne, iu (by omega), i0] at k3
          refine RW.ps 1 rfl ?_
          refine h50 sw (hs (fun z => ?_))
          have : x = 0 := by omega
          exact k3 (by rw [n16_zero.mpr this]; rfl)
        · rw [xi_ne, iu (by omega), i0] at k3
          refine RW.ps 1 rfl ?_
          refine RW.go ?_
          refine h50 0 ?_
          have h1 : n16 x = 0 := by omega
          have h2 := n16_zero.mp h1
          have h3 : v = 0 := by omega
          rw [h3]; rfl
      · rw [xi_gt, iu (by omega), hi] at k2; omega
    | succ q ih =>
      intro j iw w hj hi hf hw hw2
      have oa : Out [(Y + 1, 1)] a := Out.one (by omega)
      have hY := hB
      have oY : Out [(Y + 1, 1)] Y := Out.one (by omega)
      refine RW.ps 3 rfl ?_
      refine RW.ia (hf.k.trans ha.1) i0n (by omega) ?_
      rw [hf.i oa, ha.2.2.2.1]
      refine RW.icm (fun k2 => ?_) (fun _ => ?_)
      · rw [xi_gt, iu (by omega), hi] at k2; omega
      refine RW.ps 1 rfl ?_
      refine RW.gf (hf.k.trans hY.1) ((hf.f oY 1).trans hY.2.1.1) ?_
      refine RW.ps 7 rfl ?_
      refine RW.ia (hf.k.trans ha.1) hi (by omega) ?_
      rw [hf.i oa]
      refine RW.ist (hf.k.trans hY.2.2.1) (i_add hm hi (by omega)) (by omega) ?_
      refine RW.ps 1 rfl ?_
      refine RW.go ?_
      refine ih (j + 1) (iw + 1) _ (by omega) (i_succ hi (by omega)) hf.pi1 (fun i hij => ?_) (fun i hii => ?_)
      · by_cases hij2 : i = j
        · subst hij2; exact xpi_same
        · rw [xpi_ne (fun _ => by omega)]; exact hw i (by omega)
      · rw [xpi_ne (fun _ => by omega)]; exact hw2 i hii
  refine RW.ps 2 rfl ?_
  exact loop (n16 x + 1) 0 0 o (Nat.zero_add _) rfl (Fr.refl _ _) (fun j hj => absurd hj (Nat.not_lt_zero j)) (fun _ _ => rfl)
end MSS
