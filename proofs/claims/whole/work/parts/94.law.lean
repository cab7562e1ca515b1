/-! THE LAW: one call of a script after the other. -/
def LZ (s L X : Nat) (xs : Nat → Int32) (k : Nat) (o : xO) : Prop := xk o s = (2, L) ∧ xi o s = xs ∧ xk o (X + 122) = (4, 1) ∧ xc o ≤ 123 + k ∧ xn o ≤ 63864 + 6 * k
theorem LZ.fz {s L X k : Nat} {xs : Nat → Int32} {o o' : xO} (h : LZ s L X xs k o) (hs : s < X) (f : Fz [(X, 108), (X + 122, 1)] o o') : LZ s L X xs (k + 1) o' := by
  obtain ⟨h1, h2, h3, h4, h5⟩ := h
  obtain ⟨f1, ⟨f2, f3⟩, f4⟩ := f
  have os : Out [(X, 108), (X + 122, 1)] s := ⟨by dsimp only; omega, by dsimp only; omega, trivial⟩
  exact ⟨by unfold xk; rw [f1]; exact h1, by rw [(f4 s os).1]; exact h2, by unfold xk; rw [f1]; exact h3, by omega, by omega⟩
theorem LZ.fr {s L X k : Nat} {xs : Nat → Int32} {o o' : xO} (h : LZ s L X xs k o) (hs : s < X) (f : Fr [(X + 108, 14)] o o') : LZ s L X xs k o' := by
  obtain ⟨h1, h2, h3, h4, h5⟩ := h
  have hz := f.z
  have os : Out [(X + 108, 14)] s := Out.one (by omega)
  exact ⟨by rw [f.k]; exact h1, by rw [f.i os]; exact h2, by rw [f.k]; exact h3, by omega, by omega⟩
theorem LZ.more {s L X k : Nat} {xs : Nat → Int32} {o : xO} (h : LZ s L X xs k o) : LZ s L X xs (k + 1) o := ⟨h.1, h.2.1, h.2.2.1, by have := h.2.2.2.1; omega, by have := h.2.2.2.2; omega⟩
def LW (s L X : Nat) (xs : Nat → Int32) (k : Nat) (o : xO) : Prop := LZ s L X xs k o ∧ ∃ z t p c, WI o X z t p ∧ MI o (X + 108) z t p c
theorem Fz.mi {X c : Nat} {o o' : xO} {z : Nat → Int} {t p : List Int32} (f : Fz [(X, 108), (X + 122, 1)] o o') (h : MI o (X + 108) z t p c) : MI o' (X + 108) z t p c :=
  h.sm (f.sm (fun b h1 h2 => ⟨by dsimp only; omega, by dsimp only; omega, trivial⟩))
theorem Fr.wi {X : Nat} {o o' : xO} {z : Nat → Int} {t p : List Int32} (f : Fr [(X + 108, 14)] o o') (h : WI o X z t p) : WI o' X z t p :=
  h.sm (f.fz.sm (fun b h1 h2 => Out.one (by omega)))
section RWS
variable {Q : xR → xO → Prop} {y : Nat} {is : List xI} {lv st : List Value} {o : xO} {len a b : Nat} {v : Value}
theorem RW.ia2 {r k n : Nat} {j w : Int32} {s : List Value} (hk : xk o r = (2, n)) (hj : j.toInt = (k : Int)) (hn : k < n) (hv : xi o r k = w) (kk : RW Q y is lv (.int w :: s) o) : RW Q y ((.iaload, len, v, a, b) :: is) lv (.int j :: .ref r :: s) o := by
  obtain ⟨h1, h2⟩ := xin_of hj hn
  exact RW.hp rfl (by unfold xhp; dsimp only; rw [hk, if_pos ⟨Or.inr rfl, h1⟩, h2, hv]) kk
theorem RW.al2 {r n : Nat} {s : List Value} (hk : xk o r = (2, n)) (kk : RW Q y is lv (.int (Int32.ofNat n) :: s) o) : RW Q y ((.arraylength, len, v, a, b) :: is) lv (.ref r :: s) o :=
  RW.hp rfl (by unfold xhp; dsimp only; rw [hk, if_pos (Or.inr (Or.inl rfl))]) kk
end RWS
theorem c_thrown {o : xO} {Y c : Nat} {z : Nat → Int} {t p : List Int32} (h : MI o Y z t p c) : Cp y_M_thrown [.ref Y] o (.int (Int32.ofInt (c : Nat))) := by
  refine RW.ps 1 rfl ?_
  refine RW.gf h.1.1 h.2.2.2.2 ?_
  exact RW.re rfl rfl ⟨rfl, rfl⟩
theorem lcmp_self (x : Int64) : lg_cmp x x = 0 := by
  unfold lg_cmp
  rw [if_neg (by rw [gt_iff_lt, Int64.lt_iff_toInt_lt]; omega), if_pos rfl]
def LQ (r : xR) (o' : xO) : Prop := r = .inl (some (.int 1)) ∧ xc o' ≤ 600384 ∧ xn o' ≤ 7277546
section LAW2
variable {s L X k : Nat} {xs : Nat → Int32} {iw : Int32} {o : xO} {z : Nat → Int} {t p : List Int32} {c : Nat}
theorem law_set (hs : s < X) (hi : iw.toInt = ((5 * k : Nat) : Int)) (hL : 5 * k + 5 ≤ L) (hL2 : L ≤ 320) (hZ : LZ s L X xs k o) (hW : WI o X z t p) (hM : MI o (X + 108) z t p c) (hend : ∀ o2, LW s L X xs (k + 1) o2 → RW LQ y_L_law (xbk y_L_law 1285) [.ref s, .ref X, .ref (X + 108), .ref (X + 122), .int iw, xj, xj, xj] [] o2) : RW LQ y_L_law (xbk y_L_law 132) [.ref s, .ref X, .ref (X + 108), .ref (X + 122), .int iw, xj, xj, xj] [] o := by
  refine RW.ps 5 rfl ?_
  refine RW.ia2 hZ.1 (k := 5 * k + 1) (i_add hi (show (1 : Int32).toInt = ((1 : Nat) : Int) from rfl) (by omega)) (by omega) (congrFun hZ.2.1 _) ?_
  refine RW.ps 4 rfl ?_
  refine RW.ia2 hZ.1 (k := 5 * k + 2) (i_add hi (show (2 : Int32).toInt = ((2 : Nat) : Int) from rfl) (by omega)) (by omega) (congrFun hZ.2.1 _) ?_
  refine RW.ps 7 rfl ?_
  refine RW.ia2 hZ.1 (k := 5 * k + 3) (i_add hi (show (3 : Int32).toInt = ((3 : Nat) : Int) from rfl) (by omega)) (by omega) (congrFun hZ.2.1 _) ?_
  refine RW.ps 4 rfl ?_
  refine RW.cq rfl rfl rfl rfl rfl (l_set (u := X + 122) hW) ?_
  intro v o1 ⟨hv, f1, w1⟩
  subst hv
  have z1 := hZ.fz hs f1
  have m1 := f1.mi hM
  refine RW.ps 6 rfl ?_
  refine RW.ia2 z1.1 (k := 5 * k + 1) (i_add hi (show (1 : Int32).toInt = ((1 : Nat) : Int) from rfl) (by omega)) (by omega) (congrFun z1.2.1 _) ?_
  refine RW.ps 4 rfl ?_
  refine RW.ia2 z1.1 (k := 5 * k + 2) (i_add hi (show (2 : Int32).toInt = ((2 : Nat) : Int) from rfl) (by omega)) (by omega) (congrFun z1.2.1 _) ?_
  refine RW.ps 7 rfl ?_
  refine RW.ia2 z1.1 (k := 5 * k + 3) (i_add hi (show (3 : Int32).toInt = ((3 : Nat) : Int) from rfl) (by omega)) (by omega) (congrFun z1.2.1 _) ?_
  refine RW.ps 4 rfl ?_
  refine RW.ca _ _ rfl rfl (xrc_v rfl rfl m1.1.1) rfl rfl (c_mset m1) (fun r' o2 hq => ?_)
  obtain ⟨f2, m2, q4⟩ := hq
  subst q4
  have z2 := z1.fr hs f2
  have w2 := f2.wi w1
  show RW LQ y_L_law _ _ [] o2
  refine RW.ps 1 rfl ?_
  refine RW.cp rfl rfl (xrc_v rfl rfl m2.1.1) rfl rfl (c_thrown m2) ?_
  refine RW.ps 1 rfl ?_
  refine RW.icm (fun _ => ?_) (fun k => absurd (xi_eq.mpr rfl) k)
  refine RW.go ?_
  refine RW.weak (lv0 := [.ref s, .ref X, .ref (X + 108), .ref (X + 122), .int iw, xj, xj, xj]) ⟨Or.inr rfl, Or.inr rfl, Or.inr rfl, Or.inr rfl, Or.inr rfl, Or.inl rfl, Or.inl rfl, Or.inl rfl, trivial⟩ ?_
  refine RW.sk [] rfl ?_
  exact hend o2 ⟨z2, _, _, _, _, w2, m2⟩
theorem law_move (hs : s < X) (hi : iw.toInt = ((5 * k : Nat) : Int)) (hL : 5 * k + 5 ≤ L) (hL2 : L ≤ 320) (hZ : LZ s L X xs k o) (hW : WI o X z t p) (hM : MI o (X + 108) z t p c) (hend : ∀ o2, LW s L X xs (k + 1) o2 → RW LQ y_L_law (xbk y_L_law 1285) [.ref s, .ref X, .ref (X + 108), .ref (X + 122), .int iw, xj, xj, xj] [] o2) : RW LQ y_L_law (xbk y_L_law 212) [.ref s, .ref X, .ref (X + 108), .ref (X + 122), .int iw, xj, xj, xj] [] o := by
  refine RW.ps 5 rfl ?_
  refine RW.ia2 hZ.1 (k := 5 * k + 1) (i_add hi (show (1 : Int32).toInt = ((1 : Nat) : Int) from rfl) (by omega)) (by omega) (congrFun hZ.2.1 _) ?_
  refine RW.ps 4 rfl ?_
  refine RW.ia2 hZ.1 (k := 5 * k + 2) (i_add hi (show (2 : Int32).toInt = ((2 : Nat) : Int) from rfl) (by omega)) (by omega) (congrFun hZ.2.1 _) ?_
  refine RW.cq rfl rfl rfl rfl rfl (l_move (u := X + 122) hW) ?_
  intro v o1 ⟨hv, f1, w1⟩
  subst hv
  have z1 := hZ.fz hs f1
  have m1 := f1.mi hM
  refine RW.ps 6 rfl ?_
  refine RW.ia2 z1.1 (k := 5 * k + 1) (i_add hi (show (1 : Int32).toInt = ((1 : Nat) : Int) from rfl) (by omega)) (by omega) (congrFun z1.2.1 _) ?_
  refine RW.ps 4 rfl ?_
  refine RW.ia2 z1.1 (k := 5 * k + 2) (i_add hi (show (2 : Int32).toInt = ((2 : Nat) : Int) from rfl) (by omega)) (by omega) (congrFun z1.2.1 _) ?_
  refine RW.ca _ _ rfl rfl (xrc_v rfl rfl m1.1.1) rfl rfl (c_mmove m1) (fun r' o2 hq => ?_)
  obtain ⟨f2, m2, q4⟩ := hq
  subst q4
  have z2 := z1.fr hs f2
  have w2 := f2.wi w1
  show RW LQ y_L_law _ _ [] o2
  refine RW.ps 1 rfl ?_
  refine RW.cp rfl rfl (xrc_v rfl rfl m2.1.1) rfl rfl (c_thrown m2) ?_
  refine RW.ps 1 rfl ?_
  refine RW.icm (fun _ => ?_) (fun k => absurd (xi_eq.mpr rfl) k)
  refine RW.go ?_
  refine RW.weak (lv0 := [.ref s, .ref X, .ref (X + 108), .ref (X + 122), .int iw, xj, xj, xj]) ⟨Or.inr rfl, Or.inr rfl, Or.inr rfl, Or.inr rfl, Or.inr rfl, Or.inl rfl, Or.inl rfl, Or.inl rfl, trivial⟩ ?_
  refine RW.sk [] rfl ?_
  exact hend o2 ⟨z2, _, _, _, _, w2, m2⟩
theorem law_reckon (hs : s < X) (hi : iw.toInt = ((5 * k : Nat) : Int)) (hL : 5 * k + 5 ≤ L) (hL2 : L ≤ 320) (hZ : LZ s L X xs k o) (hW : WI o X z t p) (hM : MI o (X + 108) z t p c) (hend : ∀ o2, LW s L X xs (k + 1) o2 → RW LQ y_L_law (xbk y_L_law 1285) [.ref s, .ref X, .ref (X + 108), .ref (X + 122), .int iw, xj, xj, xj] [] o2) : RW LQ y_L_law (xbk y_L_law 260) [.ref s, .ref X, .ref (X + 108), .ref (X + 122), .int iw, xj, xj, xj] [] o := by
  refine RW.ps 5 rfl ?_
  refine RW.ia2 hZ.1 (k := 5 * k + 1) (i_add hi (show (1 : Int32).toInt = ((1 : Nat) : Int) from rfl) (by omega)) (by omega) (congrFun hZ.2.1 _) ?_
  refine RW.ps 4 rfl ?_
  refine RW.ia2 hZ.1 (k := 5 * k + 2) (i_add hi (show (2 : Int32).toInt = ((2 : Nat) : Int) from rfl) (by omega)) (by omega) (congrFun hZ.2.1 _) ?_
  refine RW.ps 4 rfl ?_
  refine RW.ia2 hZ.1 (k := 5 * k + 3) (i_add hi (show (3 : Int32).toInt = ((3 : Nat) : Int) from rfl) (by omega)) (by omega) (congrFun hZ.2.1 _) ?_
  refine RW.ps 4 rfl ?_
  refine RW.ia2 hZ.1 (k := 5 * k + 4) (i_add hi (show (4 : Int32).toInt = ((4 : Nat) : Int) from rfl) (by omega)) (by omega) (congrFun hZ.2.1 _) ?_
  refine RW.cq rfl rfl rfl rfl rfl (l_reckon (u := X + 122) hW) ?_
  intro v o1 ⟨hv, f1, w1⟩
  subst hv
  have z1 := hZ.fz hs f1
  have m1 := f1.mi hM
  refine RW.ps 6 rfl ?_
  refine RW.ia2 z1.1 (k := 5 * k + 1) (i_add hi (show (1 : Int32).toInt = ((1 : Nat) : Int) from rfl) (by omega)) (by omega) (congrFun z1.2.1 _) ?_
  refine RW.ps 4 rfl ?_
  refine RW.ia2 z1.1 (k := 5 * k + 2) (i_add hi (show (2 : Int32).toInt = ((2 : Nat) : Int) from rfl) (by omega)) (by omega) (congrFun z1.2.1 _) ?_
  refine RW.ps 4 rfl ?_
  refine RW.ia2 z1.1 (k := 5 * k + 3) (i_add hi (show (3 : Int32).toInt = ((3 : Nat) : Int) from rfl) (by omega)) (by omega) (congrFun z1.2.1 _) ?_
  refine RW.ps 4 rfl ?_
  refine RW.ia2 z1.1 (k := 5 * k + 4) (i_add hi (show (4 : Int32).toInt = ((4 : Nat) : Int) from rfl) (by omega)) (by omega) (congrFun z1.2.1 _) ?_
  refine RW.ca _ _ rfl rfl (xrc_v rfl rfl m1.1.1) rfl rfl (c_mreckon m1) (fun r' o2 hq => ?_)
  obtain ⟨f2, m2, q4⟩ := hq
  subst q4
  have z2 := z1.fr hs f2
  have w2 := f2.wi w1
  show RW LQ y_L_law _ _ [] o2
  refine RW.ps 1 rfl ?_
  refine RW.cp rfl rfl (xrc_v rfl rfl m2.1.1) rfl rfl (c_thrown m2) ?_
  refine RW.ps 1 rfl ?_
  refine RW.icm (fun _ => ?_) (fun k => absurd (xi_eq.mpr rfl) k)
  refine RW.go ?_
  refine RW.weak (lv0 := [.ref s, .ref X, .ref (X + 108), .ref (X + 122), .int iw, xj, xj, xj]) ⟨Or.inr rfl, Or.inr rfl, Or.inr rfl, Or.inr rfl, Or.inr rfl, Or.inl rfl, Or.inl rfl, Or.inl rfl, trivial⟩ ?_
  refine RW.sk [] rfl ?_
  exact hend o2 ⟨z2, _, _, _, _, w2, m2⟩
theorem law_divide (hs : s < X) (hi : iw.toInt = ((5 * k : Nat) : Int)) (hL : 5 * k + 5 ≤ L) (hL2 : L ≤ 320) (hZ : LZ s L X xs k o) (hW : WI o X z t p) (hM : MI o (X + 108) z t p c) (hend : ∀ o2, LW s L X xs (k + 1) o2 → RW LQ y_L_law (xbk y_L_law 1285) [.ref s, .ref X, .ref (X + 108), .ref (X + 122), .int iw, xj, xj, xj] [] o2) : RW LQ y_L_law (xbk y_L_law 332) [.ref s, .ref X, .ref (X + 108), .ref (X + 122), .int iw, xj, xj, xj] [] o := by
  refine RW.ps 5 rfl ?_
  refine RW.ia2 hZ.1 (k := 5 * k + 1) (i_add hi (show (1 : Int32).toInt = ((1 : Nat) : Int) from rfl) (by omega)) (by omega) (congrFun hZ.2.1 _) ?_
  refine RW.ps 4 rfl ?_
  refine RW.ia2 hZ.1 (k := 5 * k + 2) (i_add hi (show (2 : Int32).toInt = ((2 : Nat) : Int) from rfl) (by omega)) (by omega) (congrFun hZ.2.1 _) ?_
  refine RW.ps 4 rfl ?_
  refine RW.ia2 hZ.1 (k := 5 * k + 3) (i_add hi (show (3 : Int32).toInt = ((3 : Nat) : Int) from rfl) (by omega)) (by omega) (congrFun hZ.2.1 _) ?_
  refine RW.ps 4 rfl ?_
  refine RW.ia2 hZ.1 (k := 5 * k + 4) (i_add hi (show (4 : Int32).toInt = ((4 : Nat) : Int) from rfl) (by omega)) (by omega) (congrFun hZ.2.1 _) ?_
  refine RW.cq rfl rfl rfl rfl rfl (l_divide (u := X + 122) hW) ?_
  intro v o1 ⟨hv, f1, w1⟩
  subst hv
  have z1 := hZ.fz hs f1
  have m1 := f1.mi hM
  refine RW.ps 6 rfl ?_
  refine RW.ia2 z1.1 (k := 5 * k + 1) (i_add hi (show (1 : Int32).toInt = ((1 : Nat) : Int) from rfl) (by omega)) (by omega) (congrFun z1.2.1 _) ?_
  refine RW.ps 4 rfl ?_
  refine RW.ia2 z1.1 (k := 5 * k + 2) (i_add hi (show (2 : Int32).toInt = ((2 : Nat) : Int) from rfl) (by omega)) (by omega) (congrFun z1.2.1 _) ?_
  refine RW.ps 4 rfl ?_
  refine RW.ia2 z1.1 (k := 5 * k + 3) (i_add hi (show (3 : Int32).toInt = ((3 : Nat) : Int) from rfl) (by omega)) (by omega) (congrFun z1.2.1 _) ?_
  refine RW.ps 4 rfl ?_
  refine RW.ia2 z1.1 (k := 5 * k + 4) (i_add hi (show (4 : Int32).toInt = ((4 : Nat) : Int) from rfl) (by omega)) (by omega) (congrFun z1.2.1 _) ?_
  refine RW.ca _ _ rfl rfl (xrc_v rfl rfl m1.1.1) rfl rfl (c_mdivide m1) (fun r' o2 hq => ?_)
  obtain ⟨f2, m2, q4⟩ := hq
  subst q4
  have z2 := z1.fr hs f2
  have w2 := f2.wi w1
  show RW LQ y_L_law _ _ [] o2
  refine RW.ps 1 rfl ?_
  refine RW.cp rfl rfl (xrc_v rfl rfl m2.1.1) rfl rfl (c_thrown m2) ?_
  refine RW.ps 1 rfl ?_
  refine RW.icm (fun _ => ?_) (fun k => absurd (xi_eq.mpr rfl) k)
  refine RW.go ?_
  refine RW.weak (lv0 := [.ref s, .ref X, .ref (X + 108), .ref (X + 122), .int iw, xj, xj, xj]) ⟨Or.inr rfl, Or.inr rfl, Or.inr rfl, Or.inr rfl, Or.inr rfl, Or.inl rfl, Or.inl rfl, Or.inl rfl, trivial⟩ ?_
  refine RW.sk [] rfl ?_
  exact hend o2 ⟨z2, _, _, _, _, w2, m2⟩
theorem law_combine (hs : s < X) (hi : iw.toInt = ((5 * k : Nat) : Int)) (hL : 5 * k + 5 ≤ L) (hL2 : L ≤ 320) (hZ : LZ s L X xs k o) (hW : WI o X z t p) (hM : MI o (X + 108) z t p c) (hend : ∀ o2, LW s L X xs (k + 1) o2 → RW LQ y_L_law (xbk y_L_law 1285) [.ref s, .ref X, .ref (X + 108), .ref (X + 122), .int iw, xj, xj, xj] [] o2) : RW LQ y_L_law (xbk y_L_law 404) [.ref s, .ref X, .ref (X + 108), .ref (X + 122), .int iw, xj, xj, xj] [] o := by
  refine RW.ps 5 rfl ?_
  refine RW.ia2 hZ.1 (k := 5 * k + 1) (i_add hi (show (1 : Int32).toInt = ((1 : Nat) : Int) from rfl) (by omega)) (by omega) (congrFun hZ.2.1 _) ?_
  refine RW.ps 4 rfl ?_
  refine RW.ia2 hZ.1 (k := 5 * k + 2) (i_add hi (show (2 : Int32).toInt = ((2 : Nat) : Int) from rfl) (by omega)) (by omega) (congrFun hZ.2.1 _) ?_
  refine RW.ps 4 rfl ?_
  refine RW.ia2 hZ.1 (k := 5 * k + 3) (i_add hi (show (3 : Int32).toInt = ((3 : Nat) : Int) from rfl) (by omega)) (by omega) (congrFun hZ.2.1 _) ?_
  refine RW.ps 4 rfl ?_
  refine RW.ia2 hZ.1 (k := 5 * k + 4) (i_add hi (show (4 : Int32).toInt = ((4 : Nat) : Int) from rfl) (by omega)) (by omega) (congrFun hZ.2.1 _) ?_
  refine RW.cq rfl rfl rfl rfl rfl (l_combine (u := X + 122) hW) ?_
  intro v o1 ⟨hv, f1, w1⟩
  subst hv
  have z1 := hZ.fz hs f1
  have m1 := f1.mi hM
  refine RW.ps 6 rfl ?_
  refine RW.ia2 z1.1 (k := 5 * k + 1) (i_add hi (show (1 : Int32).toInt = ((1 : Nat) : Int) from rfl) (by omega)) (by omega) (congrFun z1.2.1 _) ?_
  refine RW.ps 4 rfl ?_
  refine RW.ia2 z1.1 (k := 5 * k + 2) (i_add hi (show (2 : Int32).toInt = ((2 : Nat) : Int) from rfl) (by omega)) (by omega) (congrFun z1.2.1 _) ?_
  refine RW.ps 4 rfl ?_
  refine RW.ia2 z1.1 (k := 5 * k + 3) (i_add hi (show (3 : Int32).toInt = ((3 : Nat) : Int) from rfl) (by omega)) (by omega) (congrFun z1.2.1 _) ?_
  refine RW.ps 4 rfl ?_
  refine RW.ia2 z1.1 (k := 5 * k + 4) (i_add hi (show (4 : Int32).toInt = ((4 : Nat) : Int) from rfl) (by omega)) (by omega) (congrFun z1.2.1 _) ?_
  refine RW.ca _ _ rfl rfl (xrc_v rfl rfl m1.1.1) rfl rfl (c_mcombine m1) (fun r' o2 hq => ?_)
  obtain ⟨f2, m2, q4⟩ := hq
  subst q4
  have z2 := z1.fr hs f2
  have w2 := f2.wi w1
  show RW LQ y_L_law _ _ [] o2
  refine RW.ps 1 rfl ?_
  refine RW.cp rfl rfl (xrc_v rfl rfl m2.1.1) rfl rfl (c_thrown m2) ?_
  refine RW.ps 1 rfl ?_
  refine RW.icm (fun _ => ?_) (fun k => absurd (xi_eq.mpr rfl) k)
  refine RW.go ?_
  refine RW.weak (lv0 := [.ref s, .ref X, .ref (X + 108), .ref (X + 122), .int iw, xj, xj, xj]) ⟨Or.inr rfl, Or.inr rfl, Or.inr rfl, Or.inr rfl, Or.inr rfl, Or.inl rfl, Or.inl rfl, Or.inl rfl, trivial⟩ ?_
  refine RW.sk [] rfl ?_
  exact hend o2 ⟨z2, _, _, _, _, w2, m2⟩
theorem law_shift (hs : s < X) (hi : iw.toInt = ((5 * k : Nat) : Int)) (hL : 5 * k + 5 ≤ L) (hL2 : L ≤ 320) (hZ : LZ s L X xs k o) (hW : WI o X z t p) (hM : MI o (X + 108) z t p c) (hend : ∀ o2, LW s L X xs (k + 1) o2 → RW LQ y_L_law (xbk y_L_law 1285) [.ref s, .ref X, .ref (X + 108), .ref (X + 122), .int iw, xj, xj, xj] [] o2) : RW LQ y_L_law (xbk y_L_law 476) [.ref s, .ref X, .ref (X + 108), .ref (X + 122), .int iw, xj, xj, xj] [] o := by
  refine RW.ps 5 rfl ?_
  refine RW.ia2 hZ.1 (k := 5 * k + 1) (i_add hi (show (1 : Int32).toInt = ((1 : Nat) : Int) from rfl) (by omega)) (by omega) (congrFun hZ.2.1 _) ?_
  refine RW.ps 4 rfl ?_
  refine RW.ia2 hZ.1 (k := 5 * k + 2) (i_add hi (show (2 : Int32).toInt = ((2 : Nat) : Int) from rfl) (by omega)) (by omega) (congrFun hZ.2.1 _) ?_
  refine RW.ps 4 rfl ?_
  refine RW.ia2 hZ.1 (k := 5 * k + 3) (i_add hi (show (3 : Int32).toInt = ((3 : Nat) : Int) from rfl) (by omega)) (by omega) (congrFun hZ.2.1 _) ?_
  refine RW.cq rfl rfl rfl rfl rfl (l_shift (u := X + 122) hW) ?_
  intro v o1 ⟨hv, f1, w1⟩
  subst hv
  have z1 := hZ.fz hs f1
  have m1 := f1.mi hM
  refine RW.ps 6 rfl ?_
  refine RW.ia2 z1.1 (k := 5 * k + 1) (i_add hi (show (1 : Int32).toInt = ((1 : Nat) : Int) from rfl) (by omega)) (by omega) (congrFun z1.2.1 _) ?_
  refine RW.ps 4 rfl ?_
  refine RW.ia2 z1.1 (k := 5 * k + 2) (i_add hi (show (2 : Int32).toInt = ((2 : Nat) : Int) from rfl) (by omega)) (by omega) (congrFun z1.2.1 _) ?_
  refine RW.ps 4 rfl ?_
  refine RW.ia2 z1.1 (k := 5 * k + 3) (i_add hi (show (3 : Int32).toInt = ((3 : Nat) : Int) from rfl) (by omega)) (by omega) (congrFun z1.2.1 _) ?_
  refine RW.ca _ _ rfl rfl (xrc_v rfl rfl m1.1.1) rfl rfl (c_mshift m1) (fun r' o2 hq => ?_)
  obtain ⟨f2, m2, q4⟩ := hq
  subst q4
  have z2 := z1.fr hs f2
  have w2 := f2.wi w1
  show RW LQ y_L_law _ _ [] o2
  refine RW.ps 1 rfl ?_
  refine RW.cp rfl rfl (xrc_v rfl rfl m2.1.1) rfl rfl (c_thrown m2) ?_
  refine RW.ps 1 rfl ?_
  refine RW.icm (fun _ => ?_) (fun k => absurd (xi_eq.mpr rfl) k)
  refine RW.go ?_
  refine RW.weak (lv0 := [.ref s, .ref X, .ref (X + 108), .ref (X + 122), .int iw, xj, xj, xj]) ⟨Or.inr rfl, Or.inr rfl, Or.inr rfl, Or.inr rfl, Or.inr rfl, Or.inl rfl, Or.inl rfl, Or.inl rfl, trivial⟩ ?_
  refine RW.sk [] rfl ?_
  exact hend o2 ⟨z2, _, _, _, _, w2, m2⟩
theorem law_power (hs : s < X) (hi : iw.toInt = ((5 * k : Nat) : Int)) (hL : 5 * k + 5 ≤ L) (hL2 : L ≤ 320) (hZ : LZ s L X xs k o) (hW : WI o X z t p) (hM : MI o (X + 108) z t p c) (hend : ∀ o2, LW s L X xs (k + 1) o2 → RW LQ y_L_law (xbk y_L_law 1285) [.ref s, .ref X, .ref (X + 108), .ref (X + 122), .int iw, xj, xj, xj] [] o2) : RW LQ y_L_law (xbk y_L_law 536) [.ref s, .ref X, .ref (X + 108), .ref (X + 122), .int iw, xj, xj, xj] [] o := by
  refine RW.ps 5 rfl ?_
  refine RW.ia2 hZ.1 (k := 5 * k + 1) (i_add hi (show (1 : Int32).toInt = ((1 : Nat) : Int) from rfl) (by omega)) (by omega) (congrFun hZ.2.1 _) ?_
  refine RW.ps 4 rfl ?_
  refine RW.ia2 hZ.1 (k := 5 * k + 2) (i_add hi (show (2 : Int32).toInt = ((2 : Nat) : Int) from rfl) (by omega)) (by omega) (congrFun hZ.2.1 _) ?_
  refine RW.ps 4 rfl ?_
  refine RW.ia2 hZ.1 (k := 5 * k + 3) (i_add hi (show (3 : Int32).toInt = ((3 : Nat) : Int) from rfl) (by omega)) (by omega) (congrFun hZ.2.1 _) ?_
  refine RW.cq rfl rfl rfl rfl rfl (l_power (u := X + 122) hW) ?_
  intro v o1 ⟨hv, f1, w1⟩
  subst hv
  have z1 := hZ.fz hs f1
  have m1 := f1.mi hM
  refine RW.ps 6 rfl ?_
  refine RW.ia2 z1.1 (k := 5 * k + 1) (i_add hi (show (1 : Int32).toInt = ((1 : Nat) : Int) from rfl) (by omega)) (by omega) (congrFun z1.2.1 _) ?_
  refine RW.ps 4 rfl ?_
  refine RW.ia2 z1.1 (k := 5 * k + 2) (i_add hi (show (2 : Int32).toInt = ((2 : Nat) : Int) from rfl) (by omega)) (by omega) (congrFun z1.2.1 _) ?_
  refine RW.ps 4 rfl ?_
  refine RW.ia2 z1.1 (k := 5 * k + 3) (i_add hi (show (3 : Int32).toInt = ((3 : Nat) : Int) from rfl) (by omega)) (by omega) (congrFun z1.2.1 _) ?_
  refine RW.ca _ _ rfl rfl (xrc_v rfl rfl m1.1.1) rfl rfl (c_mpower m1) (fun r' o2 hq => ?_)
  obtain ⟨f2, m2, q4⟩ := hq
  subst q4
  have z2 := z1.fr hs f2
  have w2 := f2.wi w1
  show RW LQ y_L_law _ _ [] o2
  refine RW.ps 1 rfl ?_
  refine RW.cp rfl rfl (xrc_v rfl rfl m2.1.1) rfl rfl (c_thrown m2) ?_
  refine RW.ps 1 rfl ?_
  refine RW.icm (fun _ => ?_) (fun k => absurd (xi_eq.mpr rfl) k)
  refine RW.go ?_
  refine RW.weak (lv0 := [.ref s, .ref X, .ref (X + 108), .ref (X + 122), .int iw, xj, xj, xj]) ⟨Or.inr rfl, Or.inr rfl, Or.inr rfl, Or.inr rfl, Or.inr rfl, Or.inl rfl, Or.inl rfl, Or.inl rfl, trivial⟩ ?_
  refine RW.sk [] rfl ?_
  exact hend o2 ⟨z2, _, _, _, _, w2, m2⟩
theorem law_root (hs : s < X) (hi : iw.toInt = ((5 * k : Nat) : Int)) (hL : 5 * k + 5 ≤ L) (hL2 : L ≤ 320) (hZ : LZ s L X xs k o) (hW : WI o X z t p) (hM : MI o (X + 108) z t p c) (hend : ∀ o2, LW s L X xs (k + 1) o2 → RW LQ y_L_law (xbk y_L_law 1285) [.ref s, .ref X, .ref (X + 108), .ref (X + 122), .int iw, xj, xj, xj] [] o2) : RW LQ y_L_law (xbk y_L_law 596) [.ref s, .ref X, .ref (X + 108), .ref (X + 122), .int iw, xj, xj, xj] [] o := by
  refine RW.ps 5 rfl ?_
  refine RW.ia2 hZ.1 (k := 5 * k + 1) (i_add hi (show (1 : Int32).toInt = ((1 : Nat) : Int) from rfl) (by omega)) (by omega) (congrFun hZ.2.1 _) ?_
  refine RW.ps 4 rfl ?_
  refine RW.ia2 hZ.1 (k := 5 * k + 2) (i_add hi (show (2 : Int32).toInt = ((2 : Nat) : Int) from rfl) (by omega)) (by omega) (congrFun hZ.2.1 _) ?_
  refine RW.cq rfl rfl rfl rfl rfl (l_root (u := X + 122) hW) ?_
  intro v o1 ⟨hv, f1, w1⟩
  subst hv
  have z1 := hZ.fz hs f1
  have m1 := f1.mi hM
  refine RW.ps 6 rfl ?_
  refine RW.ia2 z1.1 (k := 5 * k + 1) (i_add hi (show (1 : Int32).toInt = ((1 : Nat) : Int) from rfl) (by omega)) (by omega) (congrFun z1.2.1 _) ?_
  refine RW.ps 4 rfl ?_
  refine RW.ia2 z1.1 (k := 5 * k + 2) (i_add hi (show (2 : Int32).toInt = ((2 : Nat) : Int) from rfl) (by omega)) (by omega) (congrFun z1.2.1 _) ?_
  refine RW.ca _ _ rfl rfl (xrc_v rfl rfl m1.1.1) rfl rfl (c_mroot m1) (fun r' o2 hq => ?_)
  obtain ⟨f2, m2, q4⟩ := hq
  subst q4
  have z2 := z1.fr hs f2
  have w2 := f2.wi w1
  show RW LQ y_L_law _ _ [] o2
  refine RW.ps 1 rfl ?_
  refine RW.cp rfl rfl (xrc_v rfl rfl m2.1.1) rfl rfl (c_thrown m2) ?_
  refine RW.ps 1 rfl ?_
  refine RW.icm (fun _ => ?_) (fun k => absurd (xi_eq.mpr rfl) k)
  refine RW.go ?_
  refine RW.weak (lv0 := [.ref s, .ref X, .ref (X + 108), .ref (X + 122), .int iw, xj, xj, xj]) ⟨Or.inr rfl, Or.inr rfl, Or.inr rfl, Or.inr rfl, Or.inr rfl, Or.inl rfl, Or.inl rfl, Or.inl rfl, trivial⟩ ?_
  refine RW.sk [] rfl ?_
  exact hend o2 ⟨z2, _, _, _, _, w2, m2⟩
theorem law_common (hs : s < X) (hi : iw.toInt = ((5 * k : Nat) : Int)) (hL : 5 * k + 5 ≤ L) (hL2 : L ≤ 320) (hZ : LZ s L X xs k o) (hW : WI o X z t p) (hM : MI o (X + 108) z t p c) (hend : ∀ o2, LW s L X xs (k + 1) o2 → RW LQ y_L_law (xbk y_L_law 1285) [.ref s, .ref X, .ref (X + 108), .ref (X + 122), .int iw, xj, xj, xj] [] o2) : RW LQ y_L_law (xbk y_L_law 644) [.ref s, .ref X, .ref (X + 108), .ref (X + 122), .int iw, xj, xj, xj] [] o := by
  refine RW.ps 5 rfl ?_
  refine RW.ia2 hZ.1 (k := 5 * k + 1) (i_add hi (show (1 : Int32).toInt = ((1 : Nat) : Int) from rfl) (by omega)) (by omega) (congrFun hZ.2.1 _) ?_
  refine RW.ps 4 rfl ?_
  refine RW.ia2 hZ.1 (k := 5 * k + 2) (i_add hi (show (2 : Int32).toInt = ((2 : Nat) : Int) from rfl) (by omega)) (by omega) (congrFun hZ.2.1 _) ?_
  refine RW.ps 4 rfl ?_
  refine RW.ia2 hZ.1 (k := 5 * k + 3) (i_add hi (show (3 : Int32).toInt = ((3 : Nat) : Int) from rfl) (by omega)) (by omega) (congrFun hZ.2.1 _) ?_
  refine RW.cq rfl rfl rfl rfl rfl (l_common (u := X + 122) hW) ?_
  intro v o1 ⟨hv, f1, w1⟩
  subst hv
  have z1 := hZ.fz hs f1
  have m1 := f1.mi hM
  refine RW.ps 6 rfl ?_
  refine RW.ia2 z1.1 (k := 5 * k + 1) (i_add hi (show (1 : Int32).toInt = ((1 : Nat) : Int) from rfl) (by omega)) (by omega) (congrFun z1.2.1 _) ?_
  refine RW.ps 4 rfl ?_
  refine RW.ia2 z1.1 (k := 5 * k + 2) (i_add hi (show (2 : Int32).toInt = ((2 : Nat) : Int) from rfl) (by omega)) (by omega) (congrFun z1.2.1 _) ?_
  refine RW.ps 4 rfl ?_
  refine RW.ia2 z1.1 (k := 5 * k + 3) (i_add hi (show (3 : Int32).toInt = ((3 : Nat) : Int) from rfl) (by omega)) (by omega) (congrFun z1.2.1 _) ?_
  refine RW.ca _ _ rfl rfl (xrc_v rfl rfl m1.1.1) rfl rfl (c_mcommon m1) (fun r' o2 hq => ?_)
  obtain ⟨f2, m2, q4⟩ := hq
  subst q4
  have z2 := z1.fr hs f2
  have w2 := f2.wi w1
  show RW LQ y_L_law _ _ [] o2
  refine RW.ps 1 rfl ?_
  refine RW.cp rfl rfl (xrc_v rfl rfl m2.1.1) rfl rfl (c_thrown m2) ?_
  refine RW.ps 1 rfl ?_
  refine RW.icm (fun _ => ?_) (fun k => absurd (xi_eq.mpr rfl) k)
  refine RW.go ?_
  refine RW.weak (lv0 := [.ref s, .ref X, .ref (X + 108), .ref (X + 122), .int iw, xj, xj, xj]) ⟨Or.inr rfl, Or.inr rfl, Or.inr rfl, Or.inr rfl, Or.inr rfl, Or.inl rfl, Or.inl rfl, Or.inl rfl, trivial⟩ ?_
  refine RW.sk [] rfl ?_
  exact hend o2 ⟨z2, _, _, _, _, w2, m2⟩
theorem law_powerRest (hs : s < X) (hi : iw.toInt = ((5 * k : Nat) : Int)) (hL : 5 * k + 5 ≤ L) (hL2 : L ≤ 320) (hZ : LZ s L X xs k o) (hW : WI o X z t p) (hM : MI o (X + 108) z t p c) (hend : ∀ o2, LW s L X xs (k + 1) o2 → RW LQ y_L_law (xbk y_L_law 1285) [.ref s, .ref X, .ref (X + 108), .ref (X + 122), .int iw, xj, xj, xj] [] o2) : RW LQ y_L_law (xbk y_L_law 704) [.ref s, .ref X, .ref (X + 108), .ref (X + 122), .int iw, xj, xj, xj] [] o := by
  refine RW.ps 5 rfl ?_
  refine RW.ia2 hZ.1 (k := 5 * k + 1) (i_add hi (show (1 : Int32).toInt = ((1 : Nat) : Int) from rfl) (by omega)) (by omega) (congrFun hZ.2.1 _) ?_
  refine RW.ps 4 rfl ?_
  refine RW.ia2 hZ.1 (k := 5 * k + 2) (i_add hi (show (2 : Int32).toInt = ((2 : Nat) : Int) from rfl) (by omega)) (by omega) (congrFun hZ.2.1 _) ?_
  refine RW.ps 4 rfl ?_
  refine RW.ia2 hZ.1 (k := 5 * k + 3) (i_add hi (show (3 : Int32).toInt = ((3 : Nat) : Int) from rfl) (by omega)) (by omega) (congrFun hZ.2.1 _) ?_
  refine RW.ps 4 rfl ?_
  refine RW.ia2 hZ.1 (k := 5 * k + 4) (i_add hi (show (4 : Int32).toInt = ((4 : Nat) : Int) from rfl) (by omega)) (by omega) (congrFun hZ.2.1 _) ?_
  refine RW.cq rfl rfl rfl rfl rfl (l_powerRest (u := X + 122) hW) ?_
  intro v o1 ⟨hv, f1, w1⟩
  subst hv
  have z1 := hZ.fz hs f1
  have m1 := f1.mi hM
  refine RW.ps 6 rfl ?_
  refine RW.ia2 z1.1 (k := 5 * k + 1) (i_add hi (show (1 : Int32).toInt = ((1 : Nat) : Int) from rfl) (by omega)) (by omega) (congrFun z1.2.1 _) ?_
  refine RW.ps 4 rfl ?_
  refine RW.ia2 z1.1 (k := 5 * k + 2) (i_add hi (show (2 : Int32).toInt = ((2 : Nat) : Int) from rfl) (by omega)) (by omega) (congrFun z1.2.1 _) ?_
  refine RW.ps 4 rfl ?_
  refine RW.ia2 z1.1 (k := 5 * k + 3) (i_add hi (show (3 : Int32).toInt = ((3 : Nat) : Int) from rfl) (by omega)) (by omega) (congrFun z1.2.1 _) ?_
  refine RW.ps 4 rfl ?_
  refine RW.ia2 z1.1 (k := 5 * k + 4) (i_add hi (show (4 : Int32).toInt = ((4 : Nat) : Int) from rfl) (by omega)) (by omega) (congrFun z1.2.1 _) ?_
  refine RW.ca _ _ rfl rfl (xrc_v rfl rfl m1.1.1) rfl rfl (c_mpowerRest m1) (fun r' o2 hq => ?_)
  obtain ⟨f2, m2, q4⟩ := hq
  subst q4
  have z2 := z1.fr hs f2
  have w2 := f2.wi w1
  show RW LQ y_L_law _ _ [] o2
  refine RW.ps 1 rfl ?_
  refine RW.cp rfl rfl (xrc_v rfl rfl m2.1.1) rfl rfl (c_thrown m2) ?_
  refine RW.ps 1 rfl ?_
  refine RW.icm (fun _ => ?_) (fun k => absurd (xi_eq.mpr rfl) k)
  refine RW.go ?_
  refine RW.weak (lv0 := [.ref s, .ref X, .ref (X + 108), .ref (X + 122), .int iw, xj, xj, xj]) ⟨Or.inr rfl, Or.inr rfl, Or.inr rfl, Or.inr rfl, Or.inr rfl, Or.inl rfl, Or.inl rfl, Or.inl rfl, trivial⟩ ?_
  refine RW.sk [] rfl ?_
  exact hend o2 ⟨z2, _, _, _, _, w2, m2⟩
theorem law_compare (hs : s < X) (hi : iw.toInt = ((5 * k : Nat) : Int)) (hL : 5 * k + 5 ≤ L) (hL2 : L ≤ 320) (hZ : LZ s L X xs k o) (hW : WI o X z t p) (hM : MI o (X + 108) z t p c) (hend : ∀ o2, LW s L X xs (k + 1) o2 → RW LQ y_L_law (xbk y_L_law 1285) [.ref s, .ref X, .ref (X + 108), .ref (X + 122), .int iw, xj, xj, xj] [] o2) : RW LQ y_L_law (xbk y_L_law 776) [.ref s, .ref X, .ref (X + 108), .ref (X + 122), .int iw, xj, xj, xj] [] o := by
  have hl := l_compare (u := X + 122) (a := (xs (5 * k + 1))) (b := (xs (5 * k + 2))) hW hZ.2.2.1 (by omega)
  have hm : ∀ o1, MI o1 (X + 108) z t p c → _ := fun o1 m1 => c_mcompare (o := o1) (a := (xs (5 * k + 1))) (b := (xs (5 * k + 2))) m1
  by_cases hok : okr (xs (5 * k + 1)) ∧ okr (xs (5 * k + 2))
  · simp only [if_pos hok] at hl hm
    refine RW.ps 5 rfl ?_
    refine RW.ia2 hZ.1 (k := 5 * k + 1) (i_add hi (show (1 : Int32).toInt = ((1 : Nat) : Int) from rfl) (by omega)) (by omega) (congrFun hZ.2.1 _) ?_
    refine RW.ps 4 rfl ?_
    refine RW.ia2 hZ.1 (k := 5 * k + 2) (i_add hi (show (2 : Int32).toInt = ((2 : Nat) : Int) from rfl) (by omega)) (by omega) (congrFun hZ.2.1 _) ?_
    refine RW.ps 1 rfl ?_
    refine RW.cq rfl rfl rfl rfl rfl (hl) ?_
    intro v o1 ⟨hv, f1, w1, hu⟩
    subst hv
    have z1 := hZ.fz hs f1
    have m1 := f1.mi hM
    refine RW.ps 6 rfl ?_
    refine RW.ia2 z1.1 (k := 5 * k + 1) (i_add hi (show (1 : Int32).toInt = ((1 : Nat) : Int) from rfl) (by omega)) (by omega) (congrFun z1.2.1 _) ?_
    refine RW.ps 4 rfl ?_
    refine RW.ia2 z1.1 (k := 5 * k + 2) (i_add hi (show (2 : Int32).toInt = ((2 : Nat) : Int) from rfl) (by omega)) (by omega) (congrFun z1.2.1 _) ?_
    refine RW.ca _ _ rfl rfl (xrc_v rfl rfl m1.1.1) rfl rfl (hm o1 m1) (fun r' o2 hq => ?_)
    obtain ⟨f2, m2, q4⟩ := hq
    subst q4
    have z2 := z1.fr hs f2
    have w2 := f2.wi w1
    show RW LQ y_L_law _ _ [_] o2
    refine RW.ps 2 rfl ?_
    refine RW.cp rfl rfl (xrc_v rfl rfl m2.1.1) rfl rfl (c_thrown m2) ?_
    refine RW.ps 1 rfl ?_
    refine RW.icm (fun _ => ?_) (fun k => absurd (xi_eq.mpr rfl) k)
    refine RW.ps 1 rfl ?_
    refine RW.ifc (fun k => absurd rfl (xi_ne.mp k)) (fun _ => ?_)
    have hu2 := (f2.f (b := X + 122) (Out.one (by omega)) 0).trans (hu trivial)
    refine RW.ps 2 rfl ?_
    refine RW.lal z2.2.2.1 (by decide) hu2 ?_
    refine RW.ps 3 rfl ?_
    refine RW.top (congrArg Value.int (lcmp_self _)) ?_
    refine RW.ifc (fun _ => ?_) (fun k => absurd (xi_eq.mpr rfl) k)
    refine RW.go ?_
    refine RW.weak (lv0 := [.ref s, .ref X, .ref (X + 108), .ref (X + 122), .int iw, xj, xj, xj]) ⟨Or.inr rfl, Or.inr rfl, Or.inr rfl, Or.inr rfl, Or.inr rfl, Or.inl rfl, Or.inl rfl, Or.inl rfl, trivial⟩ ?_
    refine RW.sk [] rfl ?_
    exact hend o2 ⟨z2, _, _, _, _, w2, m2⟩
  · simp only [if_neg hok] at hl hm
    refine RW.ps 5 rfl ?_
    refine RW.ia2 hZ.1 (k := 5 * k + 1) (i_add hi (show (1 : Int32).toInt = ((1 : Nat) : Int) from rfl) (by omega)) (by omega) (congrFun hZ.2.1 _) ?_
    refine RW.ps 4 rfl ?_
    refine RW.ia2 hZ.1 (k := 5 * k + 2) (i_add hi (show (2 : Int32).toInt = ((2 : Nat) : Int) from rfl) (by omega)) (by omega) (congrFun hZ.2.1 _) ?_
    refine RW.ps 1 rfl ?_
    refine RW.cq rfl rfl rfl rfl rfl (hl) ?_
    intro v o1 ⟨hv, f1, w1, hu⟩
    subst hv
    have z1 := hZ.fz hs f1
    have m1 := f1.mi hM
    refine RW.ps 6 rfl ?_
    refine RW.ia2 z1.1 (k := 5 * k + 1) (i_add hi (show (1 : Int32).toInt = ((1 : Nat) : Int) from rfl) (by omega)) (by omega) (congrFun z1.2.1 _) ?_
    refine RW.ps 4 rfl ?_
    refine RW.ia2 z1.1 (k := 5 * k + 2) (i_add hi (show (2 : Int32).toInt = ((2 : Nat) : Int) from rfl) (by omega)) (by omega) (congrFun z1.2.1 _) ?_
    refine RW.ca _ _ rfl rfl (xrc_v rfl rfl m1.1.1) rfl rfl (hm o1 m1) (fun r' o2 hq => ?_)
    obtain ⟨f2, m2, q4⟩ := hq
    subst q4
    have z2 := z1.fr hs f2
    have w2 := f2.wi w1
    show RW LQ y_L_law _ _ [_] o2
    refine RW.ps 2 rfl ?_
    refine RW.cp rfl rfl (xrc_v rfl rfl m2.1.1) rfl rfl (c_thrown m2) ?_
    refine RW.ps 1 rfl ?_
    refine RW.icm (fun _ => ?_) (fun k => absurd (xi_eq.mpr rfl) k)
    refine RW.ps 1 rfl ?_
    refine RW.ifc (fun _ => ?_) (fun k => absurd (xi_ne.mpr (by decide)) k)
    refine RW.go ?_
    refine RW.weak (lv0 := [.ref s, .ref X, .ref (X + 108), .ref (X + 122), .int iw, xj, xj, xj]) ⟨Or.inr rfl, Or.inr rfl, Or.inr rfl, Or.inr rfl, Or.inr rfl, Or.inl rfl, Or.inl rfl, Or.inl rfl, trivial⟩ ?_
    refine RW.sk [] rfl ?_
    exact hend o2 ⟨z2, _, _, _, _, w2, m2⟩
theorem law_low (hs : s < X) (hi : iw.toInt = ((5 * k : Nat) : Int)) (hL : 5 * k + 5 ≤ L) (hL2 : L ≤ 320) (hZ : LZ s L X xs k o) (hW : WI o X z t p) (hM : MI o (X + 108) z t p c) (hend : ∀ o2, LW s L X xs (k + 1) o2 → RW LQ y_L_law (xbk y_L_law 1285) [.ref s, .ref X, .ref (X + 108), .ref (X + 122), .int iw, xj, xj, xj] [] o2) : RW LQ y_L_law (xbk y_L_law 844) [.ref s, .ref X, .ref (X + 108), .ref (X + 122), .int iw, xj, xj, xj] [] o := by
  have hl := l_low (u := X + 122) (a := (xs (5 * k + 1))) hW hZ.2.2.1 (by omega)
  have hm : ∀ o1, MI o1 (X + 108) z t p c → _ := fun o1 m1 => c_mlow (o := o1) (a := (xs (5 * k + 1))) m1
  by_cases hok : okr (xs (5 * k + 1))
  · simp only [if_pos hok] at hl hm
    refine RW.ps 5 rfl ?_
    refine RW.ia2 hZ.1 (k := 5 * k + 1) (i_add hi (show (1 : Int32).toInt = ((1 : Nat) : Int) from rfl) (by omega)) (by omega) (congrFun hZ.2.1 _) ?_
    refine RW.ps 1 rfl ?_
    refine RW.cq rfl rfl rfl rfl rfl (hl) ?_
    intro v o1 ⟨hv, f1, w1, hu⟩
    subst hv
    have z1 := hZ.fz hs f1
    have m1 := f1.mi hM
    refine RW.ps 6 rfl ?_
    refine RW.ia2 z1.1 (k := 5 * k + 1) (i_add hi (show (1 : Int32).toInt = ((1 : Nat) : Int) from rfl) (by omega)) (by omega) (congrFun z1.2.1 _) ?_
    refine RW.ca _ _ rfl rfl (xrc_v rfl rfl m1.1.1) rfl rfl (hm o1 m1) (fun r' o2 hq => ?_)
    obtain ⟨f2, m2, q4⟩ := hq
    subst q4
    have z2 := z1.fr hs f2
    have w2 := f2.wi w1
    show RW LQ y_L_law _ _ [_] o2
    refine RW.ps 2 rfl ?_
    refine RW.cp rfl rfl (xrc_v rfl rfl m2.1.1) rfl rfl (c_thrown m2) ?_
    refine RW.ps 1 rfl ?_
    refine RW.icm (fun _ => ?_) (fun k => absurd (xi_eq.mpr rfl) k)
    refine RW.ps 1 rfl ?_
    refine RW.ifc (fun k => absurd rfl (xi_ne.mp k)) (fun _ => ?_)
    have hu2 := (f2.f (b := X + 122) (Out.one (by omega)) 0).trans (hu trivial)
    refine RW.ps 2 rfl ?_
    refine RW.lal z2.2.2.1 (by decide) hu2 ?_
    refine RW.ps 2 rfl ?_
    refine RW.top (congrArg Value.int (lcmp_self _)) ?_
    refine RW.ifc (fun _ => ?_) (fun k => absurd (xi_eq.mpr rfl) k)
    refine RW.go ?_
    refine RW.weak (lv0 := [.ref s, .ref X, .ref (X + 108), .ref (X + 122), .int iw, xj, xj, xj]) ⟨Or.inr rfl, Or.inr rfl, Or.inr rfl, Or.inr rfl, Or.inr rfl, Or.inl rfl, Or.inl rfl, Or.inl rfl, trivial⟩ ?_
    refine RW.sk [] rfl ?_
    exact hend o2 ⟨z2, _, _, _, _, w2, m2⟩
  · simp only [if_neg hok] at hl hm
    refine RW.ps 5 rfl ?_
    refine RW.ia2 hZ.1 (k := 5 * k + 1) (i_add hi (show (1 : Int32).toInt = ((1 : Nat) : Int) from rfl) (by omega)) (by omega) (congrFun hZ.2.1 _) ?_
    refine RW.ps 1 rfl ?_
    refine RW.cq rfl rfl rfl rfl rfl (hl) ?_
    intro v o1 ⟨hv, f1, w1, hu⟩
    subst hv
    have z1 := hZ.fz hs f1
    have m1 := f1.mi hM
    refine RW.ps 6 rfl ?_
    refine RW.ia2 z1.1 (k := 5 * k + 1) (i_add hi (show (1 : Int32).toInt = ((1 : Nat) : Int) from rfl) (by omega)) (by omega) (congrFun z1.2.1 _) ?_
    refine RW.ca _ _ rfl rfl (xrc_v rfl rfl m1.1.1) rfl rfl (hm o1 m1) (fun r' o2 hq => ?_)
    obtain ⟨f2, m2, q4⟩ := hq
    subst q4
    have z2 := z1.fr hs f2
    have w2 := f2.wi w1
    show RW LQ y_L_law _ _ [_] o2
    refine RW.ps 2 rfl ?_
    refine RW.cp rfl rfl (xrc_v rfl rfl m2.1.1) rfl rfl (c_thrown m2) ?_
    refine RW.ps 1 rfl ?_
    refine RW.icm (fun _ => ?_) (fun k => absurd (xi_eq.mpr rfl) k)
    refine RW.ps 1 rfl ?_
    refine RW.ifc (fun _ => ?_) (fun k => absurd (xi_ne.mpr (by decide)) k)
    refine RW.go ?_
    refine RW.weak (lv0 := [.ref s, .ref X, .ref (X + 108), .ref (X + 122), .int iw, xj, xj, xj]) ⟨Or.inr rfl, Or.inr rfl, Or.inr rfl, Or.inr rfl, Or.inr rfl, Or.inl rfl, Or.inl rfl, Or.inl rfl, trivial⟩ ?_
    refine RW.sk [] rfl ?_
    exact hend o2 ⟨z2, _, _, _, _, w2, m2⟩
theorem law_length (hs : s < X) (hi : iw.toInt = ((5 * k : Nat) : Int)) (hL : 5 * k + 5 ≤ L) (hL2 : L ≤ 320) (hZ : LZ s L X xs k o) (hW : WI o X z t p) (hM : MI o (X + 108) z t p c) (hend : ∀ o2, LW s L X xs (k + 1) o2 → RW LQ y_L_law (xbk y_L_law 1285) [.ref s, .ref X, .ref (X + 108), .ref (X + 122), .int iw, xj, xj, xj] [] o2) : RW LQ y_L_law (xbk y_L_law 899) [.ref s, .ref X, .ref (X + 108), .ref (X + 122), .int iw, xj, xj, xj] [] o := by
  have hl := l_length (u := X + 122) (a := (xs (5 * k + 1))) hW hZ.2.2.1 (by omega)
  have hm : ∀ o1, MI o1 (X + 108) z t p c → _ := fun o1 m1 => c_mlength (o := o1) (a := (xs (5 * k + 1))) m1
  by_cases hok : okr (xs (5 * k + 1))
  · simp only [if_pos hok] at hl hm
    refine RW.ps 5 rfl ?_
    refine RW.ia2 hZ.1 (k := 5 * k + 1) (i_add hi (show (1 : Int32).toInt = ((1 : Nat) : Int) from rfl) (by omega)) (by omega) (congrFun hZ.2.1 _) ?_
    refine RW.ps 1 rfl ?_
    refine RW.cq rfl rfl rfl rfl rfl (hl) ?_
    intro v o1 ⟨hv, f1, w1, hu⟩
    subst hv
    have z1 := hZ.fz hs f1
    have m1 := f1.mi hM
    refine RW.ps 6 rfl ?_
    refine RW.ia2 z1.1 (k := 5 * k + 1) (i_add hi (show (1 : Int32).toInt = ((1 : Nat) : Int) from rfl) (by omega)) (by omega) (congrFun z1.2.1 _) ?_
    refine RW.ca _ _ rfl rfl (xrc_v rfl rfl m1.1.1) rfl rfl (hm o1 m1) (fun r' o2 hq => ?_)
    obtain ⟨f2, m2, q4⟩ := hq
    subst q4
    have z2 := z1.fr hs f2
    have w2 := f2.wi w1
    show RW LQ y_L_law _ _ [_] o2
    refine RW.ps 2 rfl ?_
    refine RW.cp rfl rfl (xrc_v rfl rfl m2.1.1) rfl rfl (c_thrown m2) ?_
    refine RW.ps 1 rfl ?_
    refine RW.icm (fun _ => ?_) (fun k => absurd (xi_eq.mpr rfl) k)
    refine RW.ps 1 rfl ?_
    refine RW.ifc (fun k => absurd rfl (xi_ne.mp k)) (fun _ => ?_)
    have hu2 := (f2.f (b := X + 122) (Out.one (by omega)) 0).trans (hu trivial)
    refine RW.ps 2 rfl ?_
    refine RW.lal z2.2.2.1 (by decide) hu2 ?_
    refine RW.ps 3 rfl ?_
    refine RW.top (congrArg Value.int (lcmp_self _)) ?_
    refine RW.ifc (fun _ => ?_) (fun k => absurd (xi_eq.mpr rfl) k)
    refine RW.go ?_
    refine RW.weak (lv0 := [.ref s, .ref X, .ref (X + 108), .ref (X + 122), .int iw, xj, xj, xj]) ⟨Or.inr rfl, Or.inr rfl, Or.inr rfl, Or.inr rfl, Or.inr rfl, Or.inl rfl, Or.inl rfl, Or.inl rfl, trivial⟩ ?_
    refine RW.sk [] rfl ?_
    exact hend o2 ⟨z2, _, _, _, _, w2, m2⟩
  · simp only [if_neg hok] at hl hm
    refine RW.ps 5 rfl ?_
    refine RW.ia2 hZ.1 (k := 5 * k + 1) (i_add hi (show (1 : Int32).toInt = ((1 : Nat) : Int) from rfl) (by omega)) (by omega) (congrFun hZ.2.1 _) ?_
    refine RW.ps 1 rfl ?_
    refine RW.cq rfl rfl rfl rfl rfl (hl) ?_
    intro v o1 ⟨hv, f1, w1, hu⟩
    subst hv
    have z1 := hZ.fz hs f1
    have m1 := f1.mi hM
    refine RW.ps 6 rfl ?_
    refine RW.ia2 z1.1 (k := 5 * k + 1) (i_add hi (show (1 : Int32).toInt = ((1 : Nat) : Int) from rfl) (by omega)) (by omega) (congrFun z1.2.1 _) ?_
    refine RW.ca _ _ rfl rfl (xrc_v rfl rfl m1.1.1) rfl rfl (hm o1 m1) (fun r' o2 hq => ?_)
    obtain ⟨f2, m2, q4⟩ := hq
    subst q4
    have z2 := z1.fr hs f2
    have w2 := f2.wi w1
    show RW LQ y_L_law _ _ [_] o2
    refine RW.ps 2 rfl ?_
    refine RW.cp rfl rfl (xrc_v rfl rfl m2.1.1) rfl rfl (c_thrown m2) ?_
    refine RW.ps 1 rfl ?_
    refine RW.icm (fun _ => ?_) (fun k => absurd (xi_eq.mpr rfl) k)
    refine RW.ps 1 rfl ?_
    refine RW.ifc (fun _ => ?_) (fun k => absurd (xi_ne.mpr (by decide)) k)
    refine RW.go ?_
    refine RW.weak (lv0 := [.ref s, .ref X, .ref (X + 108), .ref (X + 122), .int iw, xj, xj, xj]) ⟨Or.inr rfl, Or.inr rfl, Or.inr rfl, Or.inr rfl, Or.inr rfl, Or.inl rfl, Or.inl rfl, Or.inl rfl, trivial⟩ ?_
    refine RW.sk [] rfl ?_
    exact hend o2 ⟨z2, _, _, _, _, w2, m2⟩
theorem law_bit (hs : s < X) (hi : iw.toInt = ((5 * k : Nat) : Int)) (hL : 5 * k + 5 ≤ L) (hL2 : L ≤ 320) (hZ : LZ s L X xs k o) (hW : WI o X z t p) (hM : MI o (X + 108) z t p c) (hend : ∀ o2, LW s L X xs (k + 1) o2 → RW LQ y_L_law (xbk y_L_law 1285) [.ref s, .ref X, .ref (X + 108), .ref (X + 122), .int iw, xj, xj, xj] [] o2) : RW LQ y_L_law (xbk y_L_law 955) [.ref s, .ref X, .ref (X + 108), .ref (X + 122), .int iw, xj, xj, xj] [] o := by
  have hl := l_bit (u := X + 122) (a := (xs (5 * k + 1))) (i := (xs (5 * k + 2))) hW hZ.2.2.1 (by omega)
  have hm : ∀ o1, MI o1 (X + 108) z t p c → _ := fun o1 m1 => c_mbit (o := o1) (a := (xs (5 * k + 1))) (i := (xs (5 * k + 2))) m1
  by_cases hok : okr (xs (5 * k + 1)) ∧ 0 ≤ (xs (5 * k + 2)).toInt
  · simp only [if_pos hok] at hl hm
    refine RW.ps 5 rfl ?_
    refine RW.ia2 hZ.1 (k := 5 * k + 1) (i_add hi (show (1 : Int32).toInt = ((1 : Nat) : Int) from rfl) (by omega)) (by omega) (congrFun hZ.2.1 _) ?_
    refine RW.ps 4 rfl ?_
    refine RW.ia2 hZ.1 (k := 5 * k + 2) (i_add hi (show (2 : Int32).toInt = ((2 : Nat) : Int) from rfl) (by omega)) (by omega) (congrFun hZ.2.1 _) ?_
    refine RW.ps 1 rfl ?_
    refine RW.cq rfl rfl rfl rfl rfl (hl) ?_
    intro v o1 ⟨hv, f1, w1, hu⟩
    subst hv
    have z1 := hZ.fz hs f1
    have m1 := f1.mi hM
    refine RW.ps 6 rfl ?_
    refine RW.ia2 z1.1 (k := 5 * k + 1) (i_add hi (show (1 : Int32).toInt = ((1 : Nat) : Int) from rfl) (by omega)) (by omega) (congrFun z1.2.1 _) ?_
    refine RW.ps 4 rfl ?_
    refine RW.ia2 z1.1 (k := 5 * k + 2) (i_add hi (show (2 : Int32).toInt = ((2 : Nat) : Int) from rfl) (by omega)) (by omega) (congrFun z1.2.1 _) ?_
    refine RW.ca _ _ rfl rfl (xrc_v rfl rfl m1.1.1) rfl rfl (hm o1 m1) (fun r' o2 hq => ?_)
    obtain ⟨f2, m2, q4⟩ := hq
    subst q4
    have z2 := z1.fr hs f2
    have w2 := f2.wi w1
    show RW LQ y_L_law _ _ [_] o2
    refine RW.ps 2 rfl ?_
    refine RW.cp rfl rfl (xrc_v rfl rfl m2.1.1) rfl rfl (c_thrown m2) ?_
    refine RW.ps 1 rfl ?_
    refine RW.icm (fun _ => ?_) (fun k => absurd (xi_eq.mpr rfl) k)
    refine RW.ps 1 rfl ?_
    refine RW.ifc (fun k => absurd rfl (xi_ne.mp k)) (fun _ => ?_)
    have hu2 := (f2.f (b := X + 122) (Out.one (by omega)) 0).trans (hu trivial)
    refine RW.ps 2 rfl ?_
    refine RW.lal z2.2.2.1 (by decide) hu2 ?_
    refine RW.ps 1 rfl ?_
    have h1021 : ∀ x : Int64, x = (if bitz (z (rx (xs (5 * k + 1)))) (xs (5 * k + 2)) = true then 1 else 0) → ∀ lv, lv = [.ref s, .ref X, .ref (X + 108), .ref (X + 122), .int iw, xj, xj, xj] → RW LQ y_L_law (xbk y_L_law 1021) lv [.long x, .long (if bitz (z (rx (xs (5 * k + 1)))) (xs (5 * k + 2)) = true then 1 else 0)] o2 := by
      intro x hx lv hlv
      subst hx
      subst hlv
      refine RW.ps 1 rfl ?_
      refine RW.top (congrArg Value.int (lcmp_self _)) ?_
      refine RW.ifc (fun _ => ?_) (fun k => absurd (xi_eq.mpr rfl) k)
      refine RW.go ?_
      exact hend o2 ⟨z2, _, _, _, _, w2, m2⟩
    refine RW.ifc (fun k => ?_) (fun k => ?_)
    · have hb := sg_bool.mp k
      refine RW.ps 1 rfl ?_
      refine RW.weak (lv0 := [.ref s, .ref X, .ref (X + 108), .ref (X + 122), .int iw, xj, xj, xj]) ⟨Or.inr rfl, Or.inr rfl, Or.inr rfl, Or.inr rfl, Or.inr rfl, Or.inl rfl, Or.inl rfl, Or.inl rfl, trivial⟩ ?_
      exact h1021 0 (by rw [hb]; rfl) _ rfl
    · have hb := sgt k
      refine RW.ps 1 rfl ?_
      refine RW.go ?_
      refine RW.weak (lv0 := [.ref s, .ref X, .ref (X + 108), .ref (X + 122), .int iw, xj, xj, xj]) ⟨Or.inr rfl, Or.inr rfl, Or.inr rfl, Or.inr rfl, Or.inr rfl, Or.inl rfl, Or.inl rfl, Or.inl rfl, trivial⟩ ?_
      exact h1021 1 (by rw [hb]; rfl) _ rfl
  · simp only [if_neg hok] at hl hm
    refine RW.ps 5 rfl ?_
    refine RW.ia2 hZ.1 (k := 5 * k + 1) (i_add hi (show (1 : Int32).toInt = ((1 : Nat) : Int) from rfl) (by omega)) (by omega) (congrFun hZ.2.1 _) ?_
    refine RW.ps 4 rfl ?_
    refine RW.ia2 hZ.1 (k := 5 * k + 2) (i_add hi (show (2 : Int32).toInt = ((2 : Nat) : Int) from rfl) (by omega)) (by omega) (congrFun hZ.2.1 _) ?_
    refine RW.ps 1 rfl ?_
    refine RW.cq rfl rfl rfl rfl rfl (hl) ?_
    intro v o1 ⟨hv, f1, w1, hu⟩
    subst hv
    have z1 := hZ.fz hs f1
    have m1 := f1.mi hM
    refine RW.ps 6 rfl ?_
    refine RW.ia2 z1.1 (k := 5 * k + 1) (i_add hi (show (1 : Int32).toInt = ((1 : Nat) : Int) from rfl) (by omega)) (by omega) (congrFun z1.2.1 _) ?_
    refine RW.ps 4 rfl ?_
    refine RW.ia2 z1.1 (k := 5 * k + 2) (i_add hi (show (2 : Int32).toInt = ((2 : Nat) : Int) from rfl) (by omega)) (by omega) (congrFun z1.2.1 _) ?_
    refine RW.ca _ _ rfl rfl (xrc_v rfl rfl m1.1.1) rfl rfl (hm o1 m1) (fun r' o2 hq => ?_)
    obtain ⟨f2, m2, q4⟩ := hq
    subst q4
    have z2 := z1.fr hs f2
    have w2 := f2.wi w1
    show RW LQ y_L_law _ _ [_] o2
    refine RW.ps 2 rfl ?_
    refine RW.cp rfl rfl (xrc_v rfl rfl m2.1.1) rfl rfl (c_thrown m2) ?_
    refine RW.ps 1 rfl ?_
    refine RW.icm (fun _ => ?_) (fun k => absurd (xi_eq.mpr rfl) k)
    refine RW.ps 1 rfl ?_
    refine RW.ifc (fun _ => ?_) (fun k => absurd (xi_ne.mpr (by decide)) k)
    refine RW.go ?_
    refine RW.weak (lv0 := [.ref s, .ref X, .ref (X + 108), .ref (X + 122), .int iw, xj, xj, xj]) ⟨Or.inr rfl, Or.inr rfl, Or.inr rfl, Or.inr rfl, Or.inr rfl, Or.inl rfl, Or.inl rfl, Or.inl rfl, trivial⟩ ?_
    refine RW.sk [] rfl ?_
    exact hend o2 ⟨z2, _, _, _, _, w2, m2⟩
theorem law_ones (hs : s < X) (hi : iw.toInt = ((5 * k : Nat) : Int)) (hL : 5 * k + 5 ≤ L) (hL2 : L ≤ 320) (hZ : LZ s L X xs k o) (hW : WI o X z t p) (hM : MI o (X + 108) z t p c) (hend : ∀ o2, LW s L X xs (k + 1) o2 → RW LQ y_L_law (xbk y_L_law 1285) [.ref s, .ref X, .ref (X + 108), .ref (X + 122), .int iw, xj, xj, xj] [] o2) : RW LQ y_L_law (xbk y_L_law 1030) [.ref s, .ref X, .ref (X + 108), .ref (X + 122), .int iw, xj, xj, xj] [] o := by
  have hl := l_ones (u := X + 122) (a := (xs (5 * k + 1))) hW hZ.2.2.1 (by omega)
  have hm : ∀ o1, MI o1 (X + 108) z t p c → _ := fun o1 m1 => c_mones (o := o1) (a := (xs (5 * k + 1))) m1
  by_cases hok : okr (xs (5 * k + 1))
  · simp only [if_pos hok] at hl hm
    refine RW.ps 5 rfl ?_
    refine RW.ia2 hZ.1 (k := 5 * k + 1) (i_add hi (show (1 : Int32).toInt = ((1 : Nat) : Int) from rfl) (by omega)) (by omega) (congrFun hZ.2.1 _) ?_
    refine RW.ps 1 rfl ?_
    refine RW.cq rfl rfl rfl rfl rfl (hl) ?_
    intro v o1 ⟨hv, f1, w1, hu⟩
    subst hv
    have z1 := hZ.fz hs f1
    have m1 := f1.mi hM
    refine RW.ps 6 rfl ?_
    refine RW.ia2 z1.1 (k := 5 * k + 1) (i_add hi (show (1 : Int32).toInt = ((1 : Nat) : Int) from rfl) (by omega)) (by omega) (congrFun z1.2.1 _) ?_
    refine RW.ca _ _ rfl rfl (xrc_v rfl rfl m1.1.1) rfl rfl (hm o1 m1) (fun r' o2 hq => ?_)
    obtain ⟨f2, m2, q4⟩ := hq
    subst q4
    have z2 := z1.fr hs f2
    have w2 := f2.wi w1
    show RW LQ y_L_law _ _ [_] o2
    refine RW.ps 2 rfl ?_
    refine RW.cp rfl rfl (xrc_v rfl rfl m2.1.1) rfl rfl (c_thrown m2) ?_
    refine RW.ps 1 rfl ?_
    refine RW.icm (fun _ => ?_) (fun k => absurd (xi_eq.mpr rfl) k)
    refine RW.ps 1 rfl ?_
    refine RW.ifc (fun k => absurd rfl (xi_ne.mp k)) (fun _ => ?_)
    have hu2 := (f2.f (b := X + 122) (Out.one (by omega)) 0).trans (hu trivial)
    refine RW.ps 2 rfl ?_
    refine RW.lal z2.2.2.1 (by decide) hu2 ?_
    refine RW.ps 3 rfl ?_
    refine RW.top (congrArg Value.int (lcmp_self _)) ?_
    refine RW.ifc (fun _ => ?_) (fun k => absurd (xi_eq.mpr rfl) k)
    refine RW.go ?_
    refine RW.weak (lv0 := [.ref s, .ref X, .ref (X + 108), .ref (X + 122), .int iw, xj, xj, xj]) ⟨Or.inr rfl, Or.inr rfl, Or.inr rfl, Or.inr rfl, Or.inr rfl, Or.inl rfl, Or.inl rfl, Or.inl rfl, trivial⟩ ?_
    refine RW.sk [] rfl ?_
    exact hend o2 ⟨z2, _, _, _, _, w2, m2⟩
  · simp only [if_neg hok] at hl hm
    refine RW.ps 5 rfl ?_
    refine RW.ia2 hZ.1 (k := 5 * k + 1) (i_add hi (show (1 : Int32).toInt = ((1 : Nat) : Int) from rfl) (by omega)) (by omega) (congrFun hZ.2.1 _) ?_
    refine RW.ps 1 rfl ?_
    refine RW.cq rfl rfl rfl rfl rfl (hl) ?_
    intro v o1 ⟨hv, f1, w1, hu⟩
    subst hv
    have z1 := hZ.fz hs f1
    have m1 := f1.mi hM
    refine RW.ps 6 rfl ?_
    refine RW.ia2 z1.1 (k := 5 * k + 1) (i_add hi (show (1 : Int32).toInt = ((1 : Nat) : Int) from rfl) (by omega)) (by omega) (congrFun z1.2.1 _) ?_
    refine RW.ca _ _ rfl rfl (xrc_v rfl rfl m1.1.1) rfl rfl (hm o1 m1) (fun r' o2 hq => ?_)
    obtain ⟨f2, m2, q4⟩ := hq
    subst q4
    have z2 := z1.fr hs f2
    have w2 := f2.wi w1
    show RW LQ y_L_law _ _ [_] o2
    refine RW.ps 2 rfl ?_
    refine RW.cp rfl rfl (xrc_v rfl rfl m2.1.1) rfl rfl (c_thrown m2) ?_
    refine RW.ps 1 rfl ?_
    refine RW.icm (fun _ => ?_) (fun k => absurd (xi_eq.mpr rfl) k)
    refine RW.ps 1 rfl ?_
    refine RW.ifc (fun _ => ?_) (fun k => absurd (xi_ne.mpr (by decide)) k)
    refine RW.go ?_
    refine RW.weak (lv0 := [.ref s, .ref X, .ref (X + 108), .ref (X + 122), .int iw, xj, xj, xj]) ⟨Or.inr rfl, Or.inr rfl, Or.inr rfl, Or.inr rfl, Or.inr rfl, Or.inl rfl, Or.inl rfl, Or.inl rfl, trivial⟩ ?_
    refine RW.sk [] rfl ?_
    exact hend o2 ⟨z2, _, _, _, _, w2, m2⟩
theorem law_read (hs : s < X) (hi : iw.toInt = ((5 * k : Nat) : Int)) (hL : 5 * k + 5 ≤ L) (hL2 : L ≤ 320) (hZ : LZ s L X xs k o) (hW : WI o X z t p) (hM : MI o (X + 108) z t p c) (hend : ∀ o2, LW s L X xs (k + 1) o2 → RW LQ y_L_law (xbk y_L_law 1285) [.ref s, .ref X, .ref (X + 108), .ref (X + 122), .int iw, xj, xj, xj] [] o2) : RW LQ y_L_law (xbk y_L_law 1111) [.ref s, .ref X, .ref (X + 108), .ref (X + 122), .int iw, xj, xj, xj] [] o := by
  have hl := l_read (u := X + 122) (r := (xs (5 * k + 1))) (b := (xs (5 * k + 2))) hW hZ.2.2.1 (by omega)
  have hm : ∀ o1, MI o1 (X + 108) z t p c → _ := fun o1 m1 => c_mread (o := o1) (r := (xs (5 * k + 1))) (b := (xs (5 * k + 2))) m1
  by_cases hok : okr (xs (5 * k + 1)) ∧ okb (xs (5 * k + 2))
  · simp only [if_pos hok] at hl hm
    refine RW.ps 5 rfl ?_
    refine RW.ia2 hZ.1 (k := 5 * k + 1) (i_add hi (show (1 : Int32).toInt = ((1 : Nat) : Int) from rfl) (by omega)) (by omega) (congrFun hZ.2.1 _) ?_
    refine RW.ps 4 rfl ?_
    refine RW.ia2 hZ.1 (k := 5 * k + 2) (i_add hi (show (2 : Int32).toInt = ((2 : Nat) : Int) from rfl) (by omega)) (by omega) (congrFun hZ.2.1 _) ?_
    refine RW.ps 1 rfl ?_
    refine RW.cq rfl rfl rfl rfl rfl (hl) ?_
    intro v o1 ⟨hv, f1, w1, hu⟩
    subst hv
    have z1 := hZ.fz hs f1
    have m1 := f1.mi hM
    refine RW.ps 6 rfl ?_
    refine RW.ia2 z1.1 (k := 5 * k + 1) (i_add hi (show (1 : Int32).toInt = ((1 : Nat) : Int) from rfl) (by omega)) (by omega) (congrFun z1.2.1 _) ?_
    refine RW.ps 4 rfl ?_
    refine RW.ia2 z1.1 (k := 5 * k + 2) (i_add hi (show (2 : Int32).toInt = ((2 : Nat) : Int) from rfl) (by omega)) (by omega) (congrFun z1.2.1 _) ?_
    refine RW.ca _ _ rfl rfl (xrc_v rfl rfl m1.1.1) rfl rfl (hm o1 m1) (fun r' o2 hq => ?_)
    obtain ⟨f2, m2, q4⟩ := hq
    subst q4
    have z2 := z1.fr hs f2
    have w2 := f2.wi w1
    show RW LQ y_L_law _ _ [_] o2
    refine RW.ps 2 rfl ?_
    refine RW.cp rfl rfl (xrc_v rfl rfl m2.1.1) rfl rfl (c_thrown m2) ?_
    refine RW.ps 1 rfl ?_
    refine RW.icm (fun _ => ?_) (fun k => absurd (xi_eq.mpr rfl) k)
    refine RW.ps 1 rfl ?_
    refine RW.ifc (fun k => absurd rfl (xi_ne.mp k)) (fun _ => ?_)
    have hu2 := (f2.f (b := X + 122) (Out.one (by omega)) 0).trans (hu trivial)
    refine RW.ps 2 rfl ?_
    refine RW.lal z2.2.2.1 (by decide) hu2 ?_
    refine RW.ps 3 rfl ?_
    refine RW.top (congrArg Value.int (lcmp_self _)) ?_
    refine RW.ifc (fun _ => ?_) (fun k => absurd (xi_eq.mpr rfl) k)
    refine RW.go ?_
    refine RW.weak (lv0 := [.ref s, .ref X, .ref (X + 108), .ref (X + 122), .int iw, xj, xj, xj]) ⟨Or.inr rfl, Or.inr rfl, Or.inr rfl, Or.inr rfl, Or.inr rfl, Or.inl rfl, Or.inl rfl, Or.inl rfl, trivial⟩ ?_
    refine RW.sk [] rfl ?_
    exact hend o2 ⟨z2, _, _, _, _, w2, m2⟩
  · simp only [if_neg hok] at hl hm
    refine RW.ps 5 rfl ?_
    refine RW.ia2 hZ.1 (k := 5 * k + 1) (i_add hi (show (1 : Int32).toInt = ((1 : Nat) : Int) from rfl) (by omega)) (by omega) (congrFun hZ.2.1 _) ?_
    refine RW.ps 4 rfl ?_
    refine RW.ia2 hZ.1 (k := 5 * k + 2) (i_add hi (show (2 : Int32).toInt = ((2 : Nat) : Int) from rfl) (by omega)) (by omega) (congrFun hZ.2.1 _) ?_
    refine RW.ps 1 rfl ?_
    refine RW.cq rfl rfl rfl rfl rfl (hl) ?_
    intro v o1 ⟨hv, f1, w1, hu⟩
    subst hv
    have z1 := hZ.fz hs f1
    have m1 := f1.mi hM
    refine RW.ps 6 rfl ?_
    refine RW.ia2 z1.1 (k := 5 * k + 1) (i_add hi (show (1 : Int32).toInt = ((1 : Nat) : Int) from rfl) (by omega)) (by omega) (congrFun z1.2.1 _) ?_
    refine RW.ps 4 rfl ?_
    refine RW.ia2 z1.1 (k := 5 * k + 2) (i_add hi (show (2 : Int32).toInt = ((2 : Nat) : Int) from rfl) (by omega)) (by omega) (congrFun z1.2.1 _) ?_
    refine RW.ca _ _ rfl rfl (xrc_v rfl rfl m1.1.1) rfl rfl (hm o1 m1) (fun r' o2 hq => ?_)
    obtain ⟨f2, m2, q4⟩ := hq
    subst q4
    have z2 := z1.fr hs f2
    have w2 := f2.wi w1
    show RW LQ y_L_law _ _ [_] o2
    refine RW.ps 2 rfl ?_
    refine RW.cp rfl rfl (xrc_v rfl rfl m2.1.1) rfl rfl (c_thrown m2) ?_
    refine RW.ps 1 rfl ?_
    refine RW.icm (fun _ => ?_) (fun k => absurd (xi_eq.mpr rfl) k)
    refine RW.ps 1 rfl ?_
    refine RW.ifc (fun _ => ?_) (fun k => absurd (xi_ne.mpr (by decide)) k)
    refine RW.go ?_
    refine RW.weak (lv0 := [.ref s, .ref X, .ref (X + 108), .ref (X + 122), .int iw, xj, xj, xj]) ⟨Or.inr rfl, Or.inr rfl, Or.inr rfl, Or.inr rfl, Or.inr rfl, Or.inl rfl, Or.inl rfl, Or.inl rfl, trivial⟩ ?_
    refine RW.sk [] rfl ?_
    exact hend o2 ⟨z2, _, _, _, _, w2, m2⟩
theorem law_print (hs : s < X) (hi : iw.toInt = ((5 * k : Nat) : Int)) (hL : 5 * k + 5 ≤ L) (hL2 : L ≤ 320) (hZ : LZ s L X xs k o) (hW : WI o X z t p) (hM : MI o (X + 108) z t p c) (hend : ∀ o2, LW s L X xs (k + 1) o2 → RW LQ y_L_law (xbk y_L_law 1285) [.ref s, .ref X, .ref (X + 108), .ref (X + 122), .int iw, xj, xj, xj] [] o2) : RW LQ y_L_law (xbk y_L_law 1179) [.ref s, .ref X, .ref (X + 108), .ref (X + 122), .int iw, xj, xj, xj] [] o := by
  have hl := l_print (u := X + 122) (a := (xs (5 * k + 1))) (b := (xs (5 * k + 2))) hW hZ.2.2.1 (by omega)
  have hm : ∀ o1, MI o1 (X + 108) z t p c → _ := fun o1 m1 => c_mprint (o := o1) (a := (xs (5 * k + 1))) (b := (xs (5 * k + 2))) m1
  by_cases hok : okr (xs (5 * k + 1)) ∧ okb (xs (5 * k + 2))
  · simp only [if_pos hok] at hl hm
    refine RW.ps 5 rfl ?_
    refine RW.ia2 hZ.1 (k := 5 * k + 1) (i_add hi (show (1 : Int32).toInt = ((1 : Nat) : Int) from rfl) (by omega)) (by omega) (congrFun hZ.2.1 _) ?_
    refine RW.ps 4 rfl ?_
    refine RW.ia2 hZ.1 (k := 5 * k + 2) (i_add hi (show (2 : Int32).toInt = ((2 : Nat) : Int) from rfl) (by omega)) (by omega) (congrFun hZ.2.1 _) ?_
    refine RW.ps 1 rfl ?_
    refine RW.cq rfl rfl rfl rfl rfl (hl) ?_
    intro v o1 ⟨hv, f1, w1, hu⟩
    subst hv
    have z1 := hZ.fz hs f1
    have m1 := f1.mi hM
    refine RW.ps 6 rfl ?_
    refine RW.ia2 z1.1 (k := 5 * k + 1) (i_add hi (show (1 : Int32).toInt = ((1 : Nat) : Int) from rfl) (by omega)) (by omega) (congrFun z1.2.1 _) ?_
    refine RW.ps 4 rfl ?_
    refine RW.ia2 z1.1 (k := 5 * k + 2) (i_add hi (show (2 : Int32).toInt = ((2 : Nat) : Int) from rfl) (by omega)) (by omega) (congrFun z1.2.1 _) ?_
    refine RW.ca _ _ rfl rfl (xrc_v rfl rfl m1.1.1) rfl rfl (hm o1 m1) (fun r' o2 hq => ?_)
    obtain ⟨f2, m2, q4⟩ := hq
    subst q4
    have z2 := z1.fr hs f2
    have w2 := f2.wi w1
    show RW LQ y_L_law _ _ [_] o2
    refine RW.ps 2 rfl ?_
    refine RW.cp rfl rfl (xrc_v rfl rfl m2.1.1) rfl rfl (c_thrown m2) ?_
    refine RW.ps 1 rfl ?_
    refine RW.icm (fun _ => ?_) (fun k => absurd (xi_eq.mpr rfl) k)
    refine RW.ps 1 rfl ?_
    refine RW.ifc (fun k => absurd rfl (xi_ne.mp k)) (fun _ => ?_)
    have hu2 := (f2.f (b := X + 122) (Out.one (by omega)) 0).trans (hu trivial)
    refine RW.ps 2 rfl ?_
    refine RW.lal z2.2.2.1 (by decide) hu2 ?_
    refine RW.ps 3 rfl ?_
    refine RW.top (congrArg Value.int (lcmp_self _)) ?_
    refine RW.ifc (fun _ => ?_) (fun k => absurd (xi_eq.mpr rfl) k)
    refine RW.go ?_
    refine RW.weak (lv0 := [.ref s, .ref X, .ref (X + 108), .ref (X + 122), .int iw, xj, xj, xj]) ⟨Or.inr rfl, Or.inr rfl, Or.inr rfl, Or.inr rfl, Or.inr rfl, Or.inl rfl, Or.inl rfl, Or.inl rfl, trivial⟩ ?_
    refine RW.sk [] rfl ?_
    exact hend o2 ⟨z2, _, _, _, _, w2, m2⟩
  · simp only [if_neg hok] at hl hm
    refine RW.ps 5 rfl ?_
    refine RW.ia2 hZ.1 (k := 5 * k + 1) (i_add hi (show (1 : Int32).toInt = ((1 : Nat) : Int) from rfl) (by omega)) (by omega) (congrFun hZ.2.1 _) ?_
    refine RW.ps 4 rfl ?_
    refine RW.ia2 hZ.1 (k := 5 * k + 2) (i_add hi (show (2 : Int32).toInt = ((2 : Nat) : Int) from rfl) (by omega)) (by omega) (congrFun hZ.2.1 _) ?_
    refine RW.ps 1 rfl ?_
    refine RW.cq rfl rfl rfl rfl rfl (hl) ?_
    intro v o1 ⟨hv, f1, w1, hu⟩
    subst hv
    have z1 := hZ.fz hs f1
    have m1 := f1.mi hM
    refine RW.ps 6 rfl ?_
    refine RW.ia2 z1.1 (k := 5 * k + 1) (i_add hi (show (1 : Int32).toInt = ((1 : Nat) : Int) from rfl) (by omega)) (by omega) (congrFun z1.2.1 _) ?_
    refine RW.ps 4 rfl ?_
    refine RW.ia2 z1.1 (k := 5 * k + 2) (i_add hi (show (2 : Int32).toInt = ((2 : Nat) : Int) from rfl) (by omega)) (by omega) (congrFun z1.2.1 _) ?_
    refine RW.ca _ _ rfl rfl (xrc_v rfl rfl m1.1.1) rfl rfl (hm o1 m1) (fun r' o2 hq => ?_)
    obtain ⟨f2, m2, q4⟩ := hq
    subst q4
    have z2 := z1.fr hs f2
    have w2 := f2.wi w1
    show RW LQ y_L_law _ _ [_] o2
    refine RW.ps 2 rfl ?_
    refine RW.cp rfl rfl (xrc_v rfl rfl m2.1.1) rfl rfl (c_thrown m2) ?_
    refine RW.ps 1 rfl ?_
    refine RW.icm (fun _ => ?_) (fun k => absurd (xi_eq.mpr rfl) k)
    refine RW.ps 1 rfl ?_
    refine RW.ifc (fun _ => ?_) (fun k => absurd (xi_ne.mpr (by decide)) k)
    refine RW.go ?_
    refine RW.weak (lv0 := [.ref s, .ref X, .ref (X + 108), .ref (X + 122), .int iw, xj, xj, xj]) ⟨Or.inr rfl, Or.inr rfl, Or.inr rfl, Or.inr rfl, Or.inr rfl, Or.inl rfl, Or.inl rfl, Or.inl rfl, trivial⟩ ?_
    refine RW.sk [] rfl ?_
    exact hend o2 ⟨z2, _, _, _, _, w2, m2⟩
theorem law_feed (hs : s < X) (hi : iw.toInt = ((5 * k : Nat) : Int)) (hL : 5 * k + 5 ≤ L) (hL2 : L ≤ 320) (hZ : LZ s L X xs k o) (hW : WI o X z t p) (hM : MI o (X + 108) z t p c) (hend : ∀ o2, LW s L X xs (k + 1) o2 → RW LQ y_L_law (xbk y_L_law 1285) [.ref s, .ref X, .ref (X + 108), .ref (X + 122), .int iw, xj, xj, xj] [] o2) : RW LQ y_L_law (xbk y_L_law 1086) [.ref s, .ref X, .ref (X + 108), .ref (X + 122), .int iw, xj, xj, xj] [] o := by
  refine RW.ps 5 rfl ?_
  refine RW.ia2 hZ.1 (k := 5 * k + 1) (i_add hi (show (1 : Int32).toInt = ((1 : Nat) : Int) from rfl) (by omega)) (by omega) (congrFun hZ.2.1 _) ?_
  refine RW.ca _ _ rfl rfl (xrc_v rfl rfl hW.1.1) rfl rfl (c_wfeed hW) (fun r' o1 hq => ?_)
  obtain ⟨f1, w1, q3⟩ := hq
  rcases q3 with ⟨q3, q4⟩ | ⟨q3, q4⟩
  rotate_left
  · cases q3
  subst q4
  have f1 := f1.u (u := X + 122)
  have z1 := hZ.fz hs f1
  have m1 := f1.mi hM
  show RW LQ y_L_law _ _ [_] o1
  refine RW.ps 5 rfl ?_
  refine RW.ia2 z1.1 (k := 5 * k + 1) (i_add hi (show (1 : Int32).toInt = ((1 : Nat) : Int) from rfl) (by omega)) (by omega) (congrFun z1.2.1 _) ?_
  refine RW.ca _ _ rfl rfl (xrc_v rfl rfl m1.1.1) rfl rfl (c_mfeed m1) (fun r' o2 hq => ?_)
  obtain ⟨f2, m2, q4⟩ := hq
  subst q4
  have z2 := z1.fr hs f2
  have w2 := f2.wi w1
  show RW LQ y_L_law _ _ [_, _] o2
  refine RW.icm (fun _ => ?_) (fun k => absurd (xi_eq.mpr rfl) k)
  refine RW.weak (lv0 := [.ref s, .ref X, .ref (X + 108), .ref (X + 122), .int iw, xj, xj, xj]) ⟨Or.inr rfl, Or.inr rfl, Or.inr rfl, Or.inr rfl, Or.inr rfl, Or.inl rfl, Or.inl rfl, Or.inl rfl, trivial⟩ ?_
  refine RW.sk [] rfl ?_
  exact hend o2 ⟨z2, _, _, _, _, w2, m2⟩
theorem law_out (hs : s < X) (hi : iw.toInt = ((5 * k : Nat) : Int)) (hL : 5 * k + 5 ≤ L) (hL2 : L ≤ 320) (hZ : LZ s L X xs k o) (hW : WI o X z t p) (hM : MI o (X + 108) z t p c) (hend : ∀ o2, LW s L X xs (k + 1) o2 → RW LQ y_L_law (xbk y_L_law 1285) [.ref s, .ref X, .ref (X + 108), .ref (X + 122), .int iw, xj, xj, xj] [] o2) : RW LQ y_L_law (xbk y_L_law 1247) [.ref s, .ref X, .ref (X + 108), .ref (X + 122), .int iw, xj, xj, xj] [] o := by
  refine RW.ps 5 rfl ?_
  refine RW.ia2 hZ.1 (k := 5 * k + 1) (i_add hi (show (1 : Int32).toInt = ((1 : Nat) : Int) from rfl) (by omega)) (by omega) (congrFun hZ.2.1 _) ?_
  refine RW.ca _ _ rfl rfl (xrc_v rfl rfl hW.1.1) rfl rfl (c_wout hW) (fun r' o1 hq => ?_)
  obtain ⟨f1, w1, q3⟩ := hq
  rcases q3 with ⟨q3, q4⟩ | ⟨q3, q4⟩
  rotate_left
  · cases q3
  subst q4
  have f1 := f1.u (u := X + 122)
  have z1 := hZ.fz hs f1
  have m1 := f1.mi hM
  show RW LQ y_L_law _ _ [_] o1
  refine RW.ps 5 rfl ?_
  refine RW.ia2 z1.1 (k := 5 * k + 1) (i_add hi (show (1 : Int32).toInt = ((1 : Nat) : Int) from rfl) (by omega)) (by omega) (congrFun z1.2.1 _) ?_
  refine RW.ca _ _ rfl rfl (xrc_v rfl rfl m1.1.1) rfl rfl (c_mout m1) (fun r' o2 hq => ?_)
  obtain ⟨f2, m2, q4⟩ := hq
  subst q4
  have z2 := z1.fr hs f2
  have w2 := f2.wi w1
  show RW LQ y_L_law _ _ [_, _] o2
  refine RW.icm (fun _ => ?_) (fun k => absurd (xi_eq.mpr rfl) k)
  refine RW.weak (lv0 := [.ref s, .ref X, .ref (X + 108), .ref (X + 122), .int iw, xj, xj, xj]) ⟨Or.inr rfl, Or.inr rfl, Or.inr rfl, Or.inr rfl, Or.inr rfl, Or.inl rfl, Or.inl rfl, Or.inl rfl, trivial⟩ ?_
  refine RW.sk [] rfl ?_
  exact hend o2 ⟨z2, _, _, _, _, w2, m2⟩
theorem law_turn (hs : s < X) (hi : iw.toInt = ((5 * k : Nat) : Int)) (hL : 5 * k + 5 ≤ L) (hL2 : L ≤ 320) (hZ : LZ s L X xs k o) (hW : WI o X z t p) (hM : MI o (X + 108) z t p c) (hend : ∀ o2, LW s L X xs (k + 1) o2 → RW LQ y_L_law (xbk y_L_law 1285) [.ref s, .ref X, .ref (X + 108), .ref (X + 122), .int iw, xj, xj, xj] [] o2) : RW LQ y_L_law (xbk y_L_law 1272) [.ref s, .ref X, .ref (X + 108), .ref (X + 122), .int iw, xj, xj, xj] [] o := by
  refine RW.ps 1 rfl ?_
  refine RW.ca _ _ rfl rfl (xrc_v rfl rfl hW.1.1) rfl rfl (c_wturn hW) (fun r' o1 hq => ?_)
  obtain ⟨f1, w1, q3⟩ := hq
  rcases q3 with ⟨q3, q4⟩ | ⟨q3, q4⟩
  rotate_left
  · cases q3
  subst q4
  have f1 := f1.u (u := X + 122)
  have z1 := hZ.fz hs f1
  have m1 := f1.mi hM
  show RW LQ y_L_law _ _ [_] o1
  refine RW.ps 1 rfl ?_
  refine RW.ca _ _ rfl rfl (xrc_v rfl rfl m1.1.1) rfl rfl (c_mturn m1) (fun r' o2 hq => ?_)
  obtain ⟨f2, m2, q4⟩ := hq
  subst q4
  have z2 := z1.fr hs f2
  have w2 := f2.wi w1
  show RW LQ y_L_law _ _ [_, _] o2
  refine RW.icm (fun _ => ?_) (fun k => absurd (xi_eq.mpr rfl) k)
  refine RW.weak (lv0 := [.ref s, .ref X, .ref (X + 108), .ref (X + 122), .int iw, xj, xj, xj]) ⟨Or.inr rfl, Or.inr rfl, Or.inr rfl, Or.inr rfl, Or.inr rfl, Or.inl rfl, Or.inl rfl, Or.inl rfl, trivial⟩ ?_
  refine RW.sk [] rfl ?_
  exact hend o2 ⟨z2, _, _, _, _, w2, m2⟩
end LAW2
