/-! THE REFERENCE'S CALLS: feed, digitOf, read. -/
section C11
variable {o0 o o' : xO} {Y c : Nat} {z : Nat → Int} {t p : List Int32}
theorem MB.fj (h : MB o Y) (hk : o'.1 = o.1) (hj : ∀ j, j = 1 ∨ j = 2 ∨ j = 3 ∨ j = 4 ∨ j = 5 ∨ j = 6 ∨ j = 7 ∨ j = 8 ∨ j = 9 ∨ j = 10 ∨ j = 11 ∨ j = 13 ∨ j = 15 → xf o' Y j = xf o Y j) : MB o' Y := by
  obtain ⟨h0, ⟨a1, a2, a3, a4, a5, a6, a7, a8, a9, a10, a11, a12, a13⟩, h2⟩ := h
  have k : ∀ j, xk o' j = xk o j := fun j => by unfold xk; rw [hk]
  refine ⟨by rw [k]; exact h0, ⟨by rw [hj _ (by omega)]; exact a1, by rw [hj _ (by omega)]; exact a2, by rw [hj _ (by omega)]; exact a3, by rw [hj _ (by omega)]; exact a4, by rw [hj _ (by omega)]; exact a5, by rw [hj _ (by omega)]; exact a6, by rw [hj _ (by omega)]; exact a7, by rw [hj _ (by omega)]; exact a8, by rw [hj _ (by omega)]; exact a9, by rw [hj _ (by omega)]; exact a10, by rw [hj _ (by omega)]; exact a11, by rw [hj _ (by omega)]; exact a12, by rw [hj _ (by omega)]; exact a13⟩, ?_⟩
  simp only [k]
  exact h2
/-- the text is another -/
theorem MS.txt (h : MS o0 o Y z t p c) {t2 : List Int32} (hf : Fr [(Y, 1), (Y + 12, 1)] o o') (hj : ∀ j, j ≠ 14 → xf o' Y j = xf o Y j) (hT : Tm o' Y t2) : MS o0 o' Y z t2 p c := by
  obtain ⟨hf0, g0, g1, g2, g3, g4⟩ := h
  have oo : ∀ b, b ≠ Y → b ≠ Y + 12 → Out [(Y, 1), (Y + 12, 1)] b := fun b h1 h2 => ⟨by dsimp only; omega, by dsimp only; omega, trivial⟩
  refine ⟨hf0.trans (hf.up (fun b hb => by simp only [Out, and_true] at hb ⊢; omega)), g0.fj hf.1 (fun j hjj => hj j (by omega)), fun i hi => ⟨(g1 i hi).1.of (fun j _ _ => by rw [hf.i (oo _ (by omega) (by omega))]), (g1 i hi).2.1, by rw [hf.i (oo _ (by omega) (by omega))]; exact (g1 i hi).2.2⟩, hT, ⟨(hj 16 (by decide)).trans g3.1, g3.2.1, fun i hi => by rw [hf.i (oo _ (by omega) (by omega))]; exact g3.2.2 i hi⟩, (hj 0 (by decide)).trans g4⟩
/-- what was printed is another -/
theorem MS.pap (h : MS o0 o Y z t p c) {p2 : List Int32} (hf : Fr [(Y, 1), (Y + 13, 1)] o o') (hj : ∀ j, j ≠ 16 → xf o' Y j = xf o Y j) (hP : Pm o' Y p2) : MS o0 o' Y z t p2 c := by
  obtain ⟨hf0, g0, g1, g2, g3, g4⟩ := h
  have oo : ∀ b, b ≠ Y → b ≠ Y + 13 → Out [(Y, 1), (Y + 13, 1)] b := fun b h1 h2 => ⟨by dsimp only; omega, by dsimp only; omega, trivial⟩
  refine ⟨hf0.trans (hf.up (fun b hb => by simp only [Out, and_true] at hb ⊢; omega)), g0.fj hf.1 (fun j hjj => hj j (by omega)), fun i hi => ⟨(g1 i hi).1.of (fun j _ _ => by rw [hf.i (oo _ (by omega) (by omega))]), (g1 i hi).2.1, by rw [hf.i (oo _ (by omega) (by omega))]; exact (g1 i hi).2.2⟩, ⟨(hj 14 (by decide)).trans g2.1, g2.2.1, fun i hi => by rw [hf.i (oo _ (by omega) (by omega))]; exact g2.2.2 i hi⟩, hP, (hj 0 (by decide)).trans g4⟩
theorem MS.tt (h : MS o0 o Y z t p c) : Tm o Y t := h.2.2.2.1
theorem MS.pp (h : MS o0 o Y z t p c) : Pm o Y p := h.2.2.2.2.1
theorem frT {a b : Nat} {k : Nat} {v : Int32} {j : Nat} {w : Value} {q : xO} : Fr [(a, 1), (b, 1)] q (xpf (xpi q b k v) a j w) :=
  ⟨rfl, rfl, fun e he => ⟨by funext i; exact xpi_ne (fun e' => absurd e' (by have := he.2.1; dsimp only at this; omega)), by funext i; exact xpf_ne (fun e' => absurd e' (by have := he.1; dsimp only at this; omega))⟩⟩
theorem c_mfeed (h : MI o Y z t p c) {ch : Int32} : Ct y_M_feed [.ref Y, .int ch] o (MA o Y z (if t.length < 3000 then t ++ [ch] else t) p 0 (.int (sg (decide (t.length < 3000))))) := by
  have h := MS.start h
  refine RW.ps 2 rfl ?_
  refine RW.pf h.y rfl rfl ?_
  have h1 : MS o (xpf o Y 0 (.int 0)) Y z t p 0 := h.code 0
  generalize xpf o Y 0 (.int 0) = o1 at h1 ⊢
  have ht := h1.tt
  refine RW.ps 1 rfl ?_
  refine RW.gf h1.y ht.1 ?_
  refine RW.ps 1 rfl ?_
  refine RW.icm (fun k => ?_) (fun k => ?_)
  · rw [xi_ne, iu (by have := ht.2.1; omega), show (3000 : Int32).toInt = 3000 from rfl] at k
    have hlt : t.length < 3000 := by have := ht.2.1; omega
    rw [if_pos hlt, decide_eq_true hlt]
    refine RW.ps 1 rfl ?_
    refine RW.gf h1.y h1.f13 ?_
    refine RW.ps 1 rfl ?_
    refine RW.gf h1.y ht.1 ?_
    refine RW.ps 1 rfl ?_
    refine RW.ist (k := t.length) h1.k12 (iu (by omega)) hlt ?_
    refine RW.ps 2 rfl ?_
    refine RW.gf (o := xpi o1 (Y + 12) t.length ch) h1.y ht.1 ?_
    refine RW.ps 2 rfl ?_
    refine RW.top (congrArg Value.int (is1 t.length)) ?_
    refine RW.pf (o := xpi o1 (Y + 12) t.length ch) h1.y rfl rfl ?_
    refine RW.ps 1 rfl ?_
    have hT : Tm (xpf (xpi o1 (Y + 12) t.length ch) Y 14 (.int (Int32.ofInt ((t.length + 1 : Nat) : Int)))) Y (t ++ [ch]) := by
      refine ⟨by rw [List.length_append]; exact xpf_same, by rw [List.length_append]; exact hlt, fun i hi => ?_⟩
      rw [List.length_append] at hi
      have hi : i < t.length + 1 := hi
      show xi (xpi o1 (Y + 12) t.length ch) (Y + 12) i = _
      by_cases hil : i = t.length
      · subst hil
        rw [xpi_same]; simp
      · rw [xpi_ne (fun _ => hil), ht.2.2 i (by omega)]
        simp [List.getD, List.getElem?_append_left (show i < t.length by omega)]
    have h2 := h1.txt frT (fun j hj => xpf_ne (fun _ => hj)) hT
    exact RW.re rfl rfl ⟨h2.1, h2.2, rfl⟩
  · rw [xi_ne, iu (by have := ht.2.1; omega), show (3000 : Int32).toInt = 3000 from rfl] at k
    have hlt : ¬ t.length < 3000 := by omega
    rw [if_neg hlt, decide_eq_false hlt]
    refine RW.ps 1 rfl ?_
    exact RW.re rfl rfl ⟨h1.1, h1.2, rfl⟩
theorem c_digitOf (ch : Int32) : Cp y_M_digitOf [.int ch] o (.int (Int32.ofInt (dgt ch : Nat))) := by
  have hc1 := ch.le_toInt
  have hc2 := ch.toInt_lt
  have h59 : ∀ (v : Int32) lv, v = Int32.ofInt (dgt ch : Nat) → RW (fun q o' => q = .inl (some (.int (Int32.ofInt (dgt ch : Nat)))) ∧ o' = o) y_M_digitOf (xbk y_M_digitOf 59) lv [.int v] o := by
    intro v lv hv
    subst hv
    exact RW.re rfl rfl ⟨rfl, rfl⟩
  have hsub : ∀ n : Int, 0 ≤ n → n ≤ 100 → n ≤ ch.toInt → ∀ m : Int32, m = Int32.ofInt n → ch - m = Int32.ofInt ((ch.toInt - n).toNat : Int) := by
    intro n h0 h1 h2 m hm
    rw [hm]
    conv => lhs; rw [show ch = Int32.ofInt ch.toInt by rw [Int32.ofInt_toInt]]
    rw [ii_sub]; congr 1; omega
  have h57 : ¬ (48 ≤ ch.toInt ∧ ch.toInt ≤ 57) → ¬ (65 ≤ ch.toInt ∧ ch.toInt ≤ 90) → ¬ (97 ≤ ch.toInt ∧ ch.toInt ≤ 122) → RW (fun q o' => q = .inl (some (.int (Int32.ofInt (dgt ch : Nat)))) ∧ o' = o) y_M_digitOf (xbk y_M_digitOf 57) [.int ch] [] o := by
    intro n1 n2 n3
    refine RW.ps 1 rfl ?_
    exact h59 36 _ (by unfold dgt; rw [if_neg n1, if_neg n2, if_neg n3]; rfl)
  have h38 : ¬ (48 ≤ ch.toInt ∧ ch.toInt ≤ 57) → ¬ (65 ≤ ch.toInt ∧ ch.toInt ≤ 90) → RW (fun q o' => q = .inl (some (.int (Int32.ofInt (dgt ch : Nat)))) ∧ o' = o) y_M_digitOf (xbk y_M_digitOf 38) [.int ch] [] o := by
    intro n1 n2
    refine RW.ps 2 rfl ?_
    refine RW.icm (fun k => ?_) (fun k => ?_)
    · rw [xi_lt, show (97 : Int32).toInt = 97 from rfl] at k
      exact h57 n1 n2 (by omega)
    rw [xi_lt, show (97 : Int32).toInt = 97 from rfl] at k
    refine RW.ps 2 rfl ?_
    refine RW.icm (fun k2 => ?_) (fun k2 => ?_)
    · rw [xi_gt, show (122 : Int32).toInt = 122 from rfl] at k2
      exact h57 n1 n2 (by omega)
    rw [xi_gt, show (122 : Int32).toInt = 122 from rfl] at k2
    refine RW.ps 3 rfl ?_
    refine RW.go ?_
    exact h59 _ _ (by rw [hsub 87 (by decide) (by decide) (by omega) 87 (by decide)]; unfold dgt; rw [if_neg n1, if_neg n2, if_pos (by omega)])
  have h19 : ¬ (48 ≤ ch.toInt ∧ ch.toInt ≤ 57) → RW (fun q o' => q = .inl (some (.int (Int32.ofInt (dgt ch : Nat)))) ∧ o' = o) y_M_digitOf (xbk y_M_digitOf 19) [.int ch] [] o := by
    intro n1
    refine RW.ps 2 rfl ?_
    refine RW.icm (fun k => ?_) (fun k => ?_)
    · rw [xi_lt, show (65 : Int32).toInt = 65 from rfl] at k
      exact h38 n1 (by omega)
    rw [xi_lt, show (65 : Int32).toInt = 65 from rfl] at k
    refine RW.ps 2 rfl ?_
    refine RW.icm (fun k2 => ?_) (fun k2 => ?_)
    · rw [xi_gt, show (90 : Int32).toInt = 90 from rfl] at k2
      exact h38 n1 (by omega)
    rw [xi_gt, show (90 : Int32).toInt = 90 from rfl] at k2
    refine RW.ps 3 rfl ?_
    refine RW.go ?_
    exact h59 _ _ (by rw [hsub 55 (by decide) (by decide) (by omega) 55 (by decide)]; unfold dgt; rw [if_neg n1, if_pos (by omega)])
  refine RW.ps 2 rfl ?_
  refine RW.icm (fun k => ?_) (fun k => ?_)
  · rw [xi_lt, show (48 : Int32).toInt = 48 from rfl] at k
    exact h19 (by omega)
  rw [xi_lt, show (48 : Int32).toInt = 48 from rfl] at k
  refine RW.ps 2 rfl ?_
  refine RW.icm (fun k2 => ?_) (fun k2 => ?_)
  · rw [xi_gt, show (57 : Int32).toInt = 57 from rfl] at k2
    exact h19 (by omega)
  rw [xi_gt, show (57 : Int32).toInt = 57 from rfl] at k2
  refine RW.ps 3 rfl ?_
  refine RW.go ?_
  exact h59 _ _ (by rw [hsub 48 (by decide) (by decide) (by omega) 48 (by decide)]; unfold dgt; rw [if_pos (by omega)])
theorem c_mread (h : MI o Y z t p c) {r b : Int32} : Ct y_M_read [.ref Y, .int r, .int b] o (MA o Y (if okr r ∧ okb b then rdZ z t r b else z) (if okr r ∧ okb b then [] else t) p (if okr r ∧ okb b then 0 else 1) (if okr r ∧ okb b then .int (Int32.ofInt (rdA t b)) else .int 0)) := by
  have h := MS.start h
  have hbad : ¬ (okr r ∧ okb b) → RW (MA o Y (if okr r ∧ okb b then rdZ z t r b else z) (if okr r ∧ okb b then [] else t) p (if okr r ∧ okb b then 0 else 1) (if okr r ∧ okb b then .int (Int32.ofInt (rdA t b)) else .int 0)) y_M_read (xbk y_M_read 23) [.ref Y] [.ref Y] o := by
    intro hno
    rw [if_neg hno, if_neg hno, if_neg hno, if_neg hno]
    refine RW.ps 1 rfl ?_
    refine RW.pf h.y rfl rfl ?_
    have h1 : MS o (xpf o Y 0 (.int 1)) Y z t p 1 := h.code 1
    refine RW.ps 1 rfl ?_
    refine RW.gf h1.y h1.cd ?_
    refine RW.ifc (fun k => absurd (xi_le.mp k) (by decide)) (fun _ => ?_)
    refine RW.ps 1 rfl ?_
    exact RW.re rfl rfl ⟨h1.1, h1.2, rfl⟩
  refine RW.ps 2 rfl ?_
  by_cases hr : ¬ okr r
  · refine RW.cp rfl rfl rfl rfl rfl (c_isRegister r) ?_
    rw [if_neg hr]
    refine RW.ifc (fun _ => ?_) (fun k => absurd (xi_eq.mpr rfl) k)
    refine RW.weak (lv0 := [.ref Y]) ⟨Or.inr rfl, trivial⟩ ?_
    exact hbad (fun k => hr k.1)
  have hr := Classical.not_not.mp hr
  refine RW.cp rfl rfl rfl rfl rfl (c_isRegister r) ?_
  rw [if_pos hr]
  refine RW.ifc (fun k => absurd (xi_eq.mp k) (by decide)) (fun _ => ?_)
  refine RW.ps 2 rfl ?_
  refine RW.icm (fun k => ?_) (fun k => ?_)
  · rw [xi_lt, show (2 : Int32).toInt = 2 from rfl] at k
    refine RW.weak (lv0 := [.ref Y]) ⟨Or.inr rfl, trivial⟩ ?_
    exact hbad (fun q => by have := q.2.1; omega)
  rw [xi_lt, show (2 : Int32).toInt = 2 from rfl] at k
  refine RW.ps 2 rfl ?_
  refine RW.icm (fun k2 => ?_) (fun k2 => ?_)
  · rw [xi_gt, show (36 : Int32).toInt = 36 from rfl] at k2
    refine RW.weak (lv0 := [.ref Y]) ⟨Or.inr rfl, trivial⟩ ?_
    exact hbad (fun q => by have := q.2.2; omega)
  rw [xi_gt, show (36 : Int32).toInt = 36 from rfl] at k2
  clear hbad
  have hok : okr r ∧ okb b := ⟨hr, by omega, by omega⟩
  refine RW.ps 1 rfl ?_
  refine RW.go ?_
  refine RW.pf h.y rfl rfl ?_
  have h1 : MS o (xpf o Y 0 (.int 0)) Y z t p 0 := h.code 0
  refine RW.ps 1 rfl ?_
  refine RW.gf h1.y h1.cd ?_
  refine RW.ifc (fun _ => ?_) (fun k => absurd (xi_le.mpr (by decide)) k)
  generalize xpf o Y 0 (.int 0) = o1 at h1 ⊢
  rw [if_pos hok, if_pos hok, if_pos hok, if_pos hok]
  have hb2 : b.toInt = (b.toInt.toNat : Int) := by omega
  unfold rdA rdZ
  have hbw := i_of hb2
  have hbn2 : 2 ≤ b.toInt.toNat := by omega
  have hbn3 : b.toInt.toNat ≤ 36 := by omega
  generalize b.toInt.toNat = n at *
  have ht := h1.tt
  have htl := ht.2.1
  have hfb := flaw_bd t n
  have hst := st0_le t
  refine RW.weak (lv0 := [.ref Y, .int r, .int b, xj, xj, xj, xj]) ⟨Or.inr rfl, Or.inr rfl, Or.inr rfl, Or.inl rfl, Or.inl rfl, Or.inl rfl, Or.inl rfl, trivial⟩ ?_
  refine RW.sk [] rfl ?_
  refine RW.ps 1 rfl ?_
  refine RW.gf h1.y ht.1 ?_
  refine RW.ps 3 rfl ?_
  refine RW.pf h1.y rfl rfl ?_
  have h2 : MS o (xpf o1 Y 14 (.int 0)) Y z [] p 0 := by
    refine h1.txt (t2 := []) ?_ (fun j hj => xpf_ne (fun _ => hj)) ⟨xpf_same, Nat.zero_le _, fun i hi => absurd hi (Nat.not_lt_zero i)⟩
    exact ⟨rfl, rfl, fun e he => ⟨rfl, by funext i; exact xpf_ne (fun e' => absurd e' (by have := he.1; dsimp only at this; omega))⟩⟩
  have htx : ∀ i, i < t.length → xi (xpf o1 Y 14 (.int 0)) (Y + 12) i = t.getD i 0 := ht.2.2
  generalize xpf o1 Y 14 (.int 0) = o2 at h2 htx ⊢
  refine RW.weak (lv0 := [.ref Y, .int r, .int b, .int (Int32.ofInt (t.length : Nat)), xj, xj, xj]) ⟨Or.inr rfl, Or.inr rfl, Or.inr rfl, Or.inr rfl, Or.inl rfl, Or.inl rfl, Or.inl rfl, trivial⟩ ?_
  refine RW.sk [] rfl ?_
  -- the answers
  have hans : ∀ (v : Int) o3 z', MS o o3 Y z' [] p 0 → v = (if flaw t n = -1 then (if value t n < TOP then -1 else 3001) else flaw t n) → z' = (if flaw t n = -1 ∧ value t n < TOP then upz z (rx r) (mkz (value t n) (hy t)) else z) → MA o Y (if flaw t n = -1 ∧ value t n < TOP then upz z (rx r) (mkz (value t n) (hy t)) else z) [] p 0 (.int (Int32.ofInt (if flaw t n = -1 then (if value t n < TOP then -1 else 3001) else flaw t n))) (.inl (some (.int (Int32.ofInt v)))) o3 := by
    intro v o3 z' h3 hv hz'
    rw [← hv, ← hz']
    exact ⟨h3.1, h3.2, rfl⟩
  -- the value
  have h121 : flaw t n = -1 → RW (MA o Y (if flaw t n = -1 ∧ value t n < TOP then upz z (rx r) (mkz (value t n) (hy t)) else z) [] p 0 (.int (Int32.ofInt (if flaw t n = -1 then (if value t n < TOP then -1 else 3001) else flaw t n)))) y_M_read (xbk y_M_read 121) [.ref Y, .int r, .int b, .int (Int32.ofInt (t.length : Nat)), .int (sg (hy t)), .int (Int32.ofInt (st0 t : Nat)), xj] [] o2 := by
    intro hfl
    have hdig := flaw_no hfl
    have hpow : ∀ e, e ≤ 3000 → n ^ e ≤ 65536 ^ 1010 := by
      intro e he
      refine Nat.le_trans (pow36 hbn3 he) ?_
      rw [b31, b16]; exact Nat.pow_le_pow_right (by decide) (by decide)
    have loop : ∀ q k (kw : Int32) w acc, k + q = t.length → st0 t ≤ k → kw.toInt = (k : Int) → acc < n ^ (k - st0 t) → vl t n q k acc = value t n → MS o w Y z [] p 0 → Fr [(Y + 3, 1)] o2 w → Mn w (Y + 3) 1200 acc → RW (MA o Y (if flaw t n = -1 ∧ value t n < TOP then upz z (rx r) (mkz (value t n) (hy t)) else z) [] p 0 (.int (Int32.ofInt (if flaw t n = -1 then (if value t n < TOP then -1 else 3001) else flaw t n)))) y_M_read (xbk y_M_read 132) [.ref Y, .int r, .int b, .int (Int32.ofInt (t.length : Nat)), .int (sg (hy t)), .int (Int32.ofInt (st0 t : Nat)), .int kw] [] w := by
      intro q
      induction q with
      | zero =>
        intro k kw w acc hk hks hkw hacc hvl hw hf m3
        have hvl : acc = value t n := hvl
        subst hvl
        have m3L := m3.2.1
        refine RW.ps 2 rfl ?_
        refine RW.icm (fun _ => ?_) (fun k3 => ?_)
        rotate_left
        · rw [xi_ge, iu (by omega), hkw] at k3; omega
        refine RW.ps 1 rfl ?_
        refine RW.gf hw.y hw.f3 ?_
        refine RW.ps 1 rfl ?_
        refine RW.ia m3.1 i0n (by omega) ?_
        rw [m3.2.2.2.1]
        refine RW.ps 1 rfl ?_
        refine RW.icm (fun k3 => ?_) (fun k3 => ?_)
        · rw [xi_le, iu (by omega), show (512 : Int32).toInt = 512 from rfl] at k3
          have hT : value t n < TOP := top_n16.mp (by omega)
          have h194 : ∀ s : Int32, (mkz (value t n) (hy t) ≠ 0 → s = Int32.ofInt (mkz (value t n) (hy t)).sign) → RW (MA o Y (if flaw t n = -1 ∧ value t n < TOP then upz z (rx r) (mkz (value t n) (hy t)) else z) [] p 0 (.int (Int32.ofInt (if flaw t n = -1 then (if value t n < TOP then -1 else 3001) else flaw t n)))) y_M_read (xbk y_M_read 194) [.ref Y] [.int s, .ref (Y + 3), .int r, .ref Y] w := by
            intro s hs
            have m3' : Mn w (Y + 3) 1200 (mkz (value t n) (hy t)).natAbs := by rw [mkz_abs]; exact m3
            refine RW.cv rfl rfl (xrc_v rfl rfl hw.y) rfl rfl (c_keep hw hr.ix hr.lt m3' (by decide) (by omega) (by omega) (by rw [mkz_abs]; exact hT) hs) ?_
            intro w2 hw2
            refine RW.ps 1 rfl ?_
            refine RW.top (congrArg Value.int ((show (-1 : Int32) = Int32.ofInt (-1) by decide))) ?_
            exact RW.re rfl rfl (hans (-1) w2 _ hw2 (by rw [if_pos hfl, if_pos hT]) (by rw [if_pos ⟨hfl, hT⟩]))
          refine RW.ps 3 rfl ?_
          refine RW.gf hw.y hw.f3 ?_
          refine RW.ps 1 rfl ?_
          refine RW.ifc (fun k4 => ?_) (fun k4 => ?_)
          · have hh := sg_bool.mp k4
            refine RW.ps 1 rfl ?_
            refine RW.weak (lv0 := [.ref Y]) ⟨Or.inr rfl, trivial⟩ ?_
            refine RW.sk [.int 1, .ref (Y + 3), .int r, .ref Y] rfl ?_
            exact h194 1 (fun hne => by rw [mkz_sign hne, hh]; rfl)
          · have hh := sgt k4
            refine RW.ps 1 rfl ?_
            refine RW.go ?_
            refine RW.weak (lv0 := [.ref Y]) ⟨Or.inr rfl, trivial⟩ ?_
            refine RW.sk [.int (-1), .ref (Y + 3), .int r, .ref Y] rfl ?_
            exact h194 (-1) (fun hne => by rw [mkz_sign hne, hh]; rfl)
        · rw [xi_le, iu (by omega), show (512 : Int32).toInt = 512 from rfl] at k3
          have hT : ¬ value t n < TOP := fun q => by have := top_n16.mpr q; omega
          refine RW.ps 1 rfl ?_
          exact RW.re rfl rfl (hans 3001 w z hw (by rw [if_pos hfl, if_neg hT]) (by rw [if_neg (fun q => hT q.2)]))
      | succ q ih =>
        intro k kw w acc hk hks hkw hacc hvl hw hf m3
        have hdk := hdig k hks (by omega)
        have hnacc : n16 acc ≤ 1010 := n16_le.mpr (Nat.lt_of_lt_of_le hacc (hpow _ (by omega)))
        refine RW.ps 2 rfl ?_
        refine RW.icm (fun k3 => ?_) (fun _ => ?_)
        · rw [xi_ge, iu (by omega), hkw] at k3; omega
        refine RW.ps 1 rfl ?_
        refine RW.gf hw.y hw.f3 ?_
        refine RW.ps 2 rfl ?_
        refine RW.gf hw.y hw.f13 ?_
        refine RW.ps 1 rfl ?_
        refine RW.ia hw.k12 hkw (by omega) ?_
        rw [hf.i (Out.one (by omega)), htx k (by omega)]
        refine RW.cp rfl rfl rfl rfl rfl (c_digitOf (t.getD k 0)) ?_
        refine RW.cv rfl rfl rfl rfl rfl (c_mscale m3 (by decide) hb2 (iu (u := dgt (t.getD k 0)) (by omega)) (by omega) (by omega) (by omega) (by omega)) ?_
        intro w2 ⟨f2, m4⟩
        refine RW.ps 1 rfl ?_
        refine RW.go ?_
        refine ih (k + 1) (kw + 1) w2 _ (by omega) (by omega) (i_succ hkw (by omega)) ?_ hvl (hw.scr f2 (by omega) (by omega)) (hf.trans f2) m4
        have h5 := Nat.mul_le_mul_right n (show acc + 1 ≤ n ^ (k - st0 t) from hacc)
        rw [Nat.add_mul, Nat.one_mul] at h5
        rw [show k + 1 - st0 t = (k - st0 t) + 1 by omega, Nat.pow_succ]
        omega
    refine RW.ps 1 rfl ?_
    refine RW.gf h2.y h2.f3 ?_
    refine RW.ps 2 rfl ?_
    refine RW.ist (k := 0) h2.k3 i0n (by omega) ?_
    have f3 : Fr [(Y + 3, 1)] o2 (xpi o2 (Y + 3) 0 0) := Fr.pi
    have m3 : Mn (xpi o2 (Y + 3) 0 0) (Y + 3) 1200 0 := by
      unfold Mn
      rw [n16_zero.mpr rfl]
      exact ⟨h2.k3, by decide, by decide, xpi_same, fun k hk => absurd hk (Nat.not_lt_zero k)⟩
    refine RW.ps 2 rfl ?_
    refine RW.weak (lv0 := [.ref Y, .int r, .int b, .int (Int32.ofInt (t.length : Nat)), .int (sg (hy t)), .int (Int32.ofInt (st0 t : Nat)), .int (Int32.ofInt (st0 t : Nat))]) ⟨Or.inr rfl, Or.inr rfl, Or.inr rfl, Or.inr rfl, Or.inr rfl, Or.inr rfl, Or.inr rfl, trivial⟩ ?_
    refine RW.sk [] rfl ?_
    exact loop (t.length - st0 t) (st0 t) _ _ 0 (by omega) (Nat.le_refl _) (iu (by omega)) (by rw [Nat.sub_self, Nat.pow_zero]; decide) rfl (h2.scr f3 (by omega) (by omega)) f3 m3
  have h84 : ∀ q k (kw : Int32), k + q = t.length → kw.toInt = (k : Int) → fl t n q k = flaw t n → RW (MA o Y (if flaw t n = -1 ∧ value t n < TOP then upz z (rx r) (mkz (value t n) (hy t)) else z) [] p 0 (.int (Int32.ofInt (if flaw t n = -1 then (if value t n < TOP then -1 else 3001) else flaw t n)))) y_M_read (xbk y_M_read 84) [.ref Y, .int r, .int b, .int (Int32.ofInt (t.length : Nat)), .int (sg (hy t)), .int (Int32.ofInt (st0 t : Nat)), .int kw] [] o2 := by
    intro q
    induction q with
    | zero =>
      intro k kw hk hkw hfl
      rw [fl] at hfl
      refine RW.ps 2 rfl ?_
      refine RW.icm (fun _ => ?_) (fun k3 => ?_)
      rotate_left
      · rw [xi_ge, iu (by omega), hkw] at k3; omega
      refine RW.ps 2 rfl ?_
      refine RW.icm (fun k3 => ?_) (fun k3 => ?_)
      · rw [xi_ne, iu (by omega), iu (by omega)] at k3
        rw [if_neg (by omega)] at hfl
        refine RW.weak (lv0 := [.ref Y, .int r, .int b, .int (Int32.ofInt (t.length : Nat)), .int (sg (hy t)), .int (Int32.ofInt (st0 t : Nat)), xj]) ⟨Or.inr rfl, Or.inr rfl, Or.inr rfl, Or.inr rfl, Or.inr rfl, Or.inr rfl, Or.inl rfl, trivial⟩ ?_
        refine RW.sk [] rfl ?_
        exact h121 hfl.symm
      · rw [xi_ne, iu (by omega), iu (by omega)] at k3
        rw [if_pos (by omega)] at hfl
        refine RW.ps 1 rfl ?_
        exact RW.re rfl rfl (hans (t.length : Int) o2 z h2 (by rw [← hfl, if_neg (by omega)]) (by rw [← hfl, if_neg (fun q => by have := q.1; omega)]))
    | succ q ih =>
      intro k kw hk hkw hfl
      have hdl := dgt_le (t.getD k 0)
      rw [fl] at hfl
      refine RW.ps 2 rfl ?_
      refine RW.icm (fun k3 => ?_) (fun _ => ?_)
      · rw [xi_ge, iu (by omega), hkw] at k3; omega
      refine RW.ps 1 rfl ?_
      refine RW.gf h2.y h2.f13 ?_
      refine RW.ps 1 rfl ?_
      refine RW.ia h2.k12 hkw (by omega) ?_
      rw [htx k (by omega)]
      refine RW.cp rfl rfl rfl rfl rfl (c_digitOf (t.getD k 0)) ?_
      refine RW.ps 1 rfl ?_
      refine RW.icm (fun k3 => ?_) (fun k3 => ?_)
      · rw [xi_lt, iu (by omega), hb2] at k3
        rw [if_neg (by omega)] at hfl
        refine RW.ps 1 rfl ?_
        refine RW.go ?_
        exact ih (k + 1) (kw + 1) (by omega) (i_succ hkw (by omega)) hfl
      · rw [xi_lt, iu (by omega), hb2] at k3
        rw [if_pos (by omega)] at hfl
        refine RW.ps 1 rfl ?_
        rw [i_of hkw]
        exact RW.re rfl rfl (hans (k : Int) o2 z h2 (by rw [← hfl, if_neg (by omega)]) (by rw [← hfl, if_neg (fun q => by have := q.1; omega)]))
  have h66 : ∀ cc : Bool, cc = hy t → RW (MA o Y (if flaw t n = -1 ∧ value t n < TOP then upz z (rx r) (mkz (value t n) (hy t)) else z) [] p 0 (.int (Int32.ofInt (if flaw t n = -1 then (if value t n < TOP then -1 else 3001) else flaw t n)))) y_M_read (xbk y_M_read 66) [.ref Y, .int r, .int b, .int (Int32.ofInt (t.length : Nat)), xj, xj, xj] [.int (sg cc)] o2 := by
    intro cc hcc
    subst hcc
    have h78 : ∀ v : Int32, v = Int32.ofInt (st0 t : Nat) → RW (MA o Y (if flaw t n = -1 ∧ value t n < TOP then upz z (rx r) (mkz (value t n) (hy t)) else z) [] p 0 (.int (Int32.ofInt (if flaw t n = -1 then (if value t n < TOP then -1 else 3001) else flaw t n)))) y_M_read (xbk y_M_read 78) [.ref Y, .int r, .int b, .int (Int32.ofInt (t.length : Nat)), .int (sg (hy t)), xj, xj] [.int v] o2 := by
      intro v hv
      subst hv
      refine RW.ps 3 rfl ?_
      refine RW.weak (lv0 := [.ref Y, .int r, .int b, .int (Int32.ofInt (t.length : Nat)), .int (sg (hy t)), .int (Int32.ofInt (st0 t : Nat)), .int (Int32.ofInt (st0 t : Nat))]) ⟨Or.inr rfl, Or.inr rfl, Or.inr rfl, Or.inr rfl, Or.inr rfl, Or.inr rfl, Or.inr rfl, trivial⟩ ?_
      refine RW.sk [] rfl ?_
      exact h84 (t.length - st0 t) (st0 t) _ (by omega) (iu (by omega)) rfl
    refine RW.ps 2 rfl ?_
    refine RW.ifc (fun k3 => ?_) (fun k3 => ?_)
    · have hh := sg_bool.mp k3
      refine RW.ps 1 rfl ?_
      refine RW.weak (lv0 := [.ref Y, .int r, .int b, .int (Int32.ofInt (t.length : Nat)), .int (sg (hy t)), xj, xj]) ⟨Or.inr rfl, Or.inr rfl, Or.inr rfl, Or.inr rfl, Or.inr rfl, Or.inl rfl, Or.inl rfl, trivial⟩ ?_
      refine RW.sk [.int 0] rfl ?_
      exact h78 0 (by unfold st0; rw [hh]; rfl)
    · have hh := sgt k3
      refine RW.ps 1 rfl ?_
      refine RW.go ?_
      refine RW.weak (lv0 := [.ref Y, .int r, .int b, .int (Int32.ofInt (t.length : Nat)), .int (sg (hy t)), xj, xj]) ⟨Or.inr rfl, Or.inr rfl, Or.inr rfl, Or.inr rfl, Or.inr rfl, Or.inl rfl, Or.inl rfl, trivial⟩ ?_
      refine RW.sk [.int 1] rfl ?_
      exact h78 1 (by unfold st0; rw [hh]; rfl)
  have h65 : hy t = false → RW (MA o Y (if flaw t n = -1 ∧ value t n < TOP then upz z (rx r) (mkz (value t n) (hy t)) else z) [] p 0 (.int (Int32.ofInt (if flaw t n = -1 then (if value t n < TOP then -1 else 3001) else flaw t n)))) y_M_read (xbk y_M_read 65) [.ref Y, .int r, .int b, .int (Int32.ofInt (t.length : Nat)), xj, xj, xj] [] o2 := by
    intro hh
    refine RW.ps 1 rfl ?_
    exact h66 false hh.symm
  refine RW.ps 1 rfl ?_
  refine RW.ifc (fun k3 => ?_) (fun k3 => ?_)
  · rw [xi_le, iu (by omega), i0] at k3
    exact h65 (by unfold hy; rw [decide_eq_false (by omega)]; rfl)
  rw [xi_le, iu (by omega), i0] at k3
  refine RW.ps 1 rfl ?_
  refine RW.gf h2.y h2.f13 ?_
  refine RW.ps 1 rfl ?_
  refine RW.ia (k := 0) h2.k12 i0n (by decide) ?_
  rw [htx 0 (by omega)]
  refine RW.ps 1 rfl ?_
  refine RW.icm (fun k4 => ?_) (fun k4 => ?_)
  · rw [xi_ne, show (45 : Int32).toInt = 45 from rfl] at k4
    exact h65 (by unfold hy; rw [decide_eq_false k4, Bool.and_false])
  · rw [xi_ne, show (45 : Int32).toInt = 45 from rfl] at k4
    refine RW.ps 1 rfl ?_
    refine RW.go ?_
    exact h66 true (by unfold hy; rw [decide_eq_true (show 0 < t.length by omega), decide_eq_true (Classical.not_not.mp k4)]; rfl)
end C11
