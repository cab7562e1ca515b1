/-! THE LAW'S METHODS THAT CATCH. -/
theorem MI.sm {o o' : xO} {Y c : Nat} {z : Nat → Int} {t p : List Int32} (h : MI o Y z t p c) (s : Sm Y 14 o o') : MI o' Y z t p c := by
  have k : ∀ j, j < 14 → xk o' (Y + j) = xk o (Y + j) := fun j hj => (s (Y + j) (by omega) (by omega)).1
  have i : ∀ j, j < 14 → xi o' (Y + j) = xi o (Y + j) := fun j hj => (s (Y + j) (by omega) (by omega)).2.1
  have f : ∀ j, xf o' Y j = xf o Y j := fun j => congrFun (s Y (by omega) (by omega)).2.2 j
  have k0 : xk o' Y = xk o Y := (s Y (by omega) (by omega)).1
  obtain ⟨⟨g0, g1, g2⟩, g3, g4, g5, g6⟩ := h
  refine ⟨⟨by rw [k0]; exact g0, ?_, ?_⟩, fun r hr => ⟨(g3 r hr).1.of (fun j _ _ => by rw [i 1 (by decide)]), (g3 r hr).2.1, by rw [i 2 (by decide)]; exact (g3 r hr).2.2⟩, ⟨by rw [f]; exact g4.1, g4.2.1, fun j hj => by rw [i 12 (by decide)]; exact g4.2.2 j hj⟩, ⟨by rw [f]; exact g5.1, g5.2.1, fun j hj => by rw [i 13 (by decide)]; exact g5.2.2 j hj⟩, by rw [f]; exact g6⟩
  · simp only [f]; exact g1
  · rw [k 1 (by decide), k 2 (by decide), k 3 (by decide), k 4 (by decide), k 5 (by decide), k 6 (by decide), k 7 (by decide), k 8 (by decide), k 9 (by decide), k 10 (by decide), k 11 (by decide), k 12 (by decide), k 13 (by decide)]; exact g2
theorem WI.sm {o o' : xO} {X : Nat} {z : Nat → Int} {t p : List Int32} (h : WI o X z t p) (s : Sm X 108 o o') : WI o' X z t p := by
  have a := s X (by omega) (by omega)
  have b := s (X + 1) (by omega) (by omega)
  obtain ⟨⟨h0, h1, h2, h3, h4, h5, h6, h7, h8, h9, h10, h11, h12⟩, z1, z2, z3, z4, z5, z6, z7, z8, z9, z10⟩ := h
  have f : ∀ j, xf o' X j = xf o X j := fun j => congrFun a.2.2 j
  exact ⟨⟨by rw [a.1]; exact h0, by rw [f]; exact h1, by rw [f]; exact h2, by rw [f]; exact h3, by rw [f]; exact h4, by rw [f]; exact h5, by rw [f]; exact h6, by rw [f]; exact h7, by rw [f]; exact h8, by rw [f]; exact h9, by rw [f]; exact h10, by rw [b.1]; exact h11, fun i hi => by rw [b.2.2]; exact h12 i hi⟩,
    z1.elim (fun v hv => ⟨v, hv.sm (s.sub (by omega) (by omega))⟩), z2.sm (s.sub (by omega) (by omega)), z3.sm (s.sub (by omega) (by omega)), z4.sm (s.sub (by omega) (by omega)), z5.sm (s.sub (by omega) (by omega)), z6.sm (s.sub (by omega) (by omega)), z7.sm (s.sub (by omega) (by omega)), z8.sm (s.sub (by omega) (by omega)), z9.sm (s.sub (by omega) (by omega)), fun i hi => ⟨(z10 i hi).1.sm (s.sub (by omega) (by omega)), (z10 i hi).2⟩⟩
theorem Fz.sm {S : List (Nat × Nat)} {o o' : xO} {c n : Nat} (h : Fz S o o') (ho : ∀ b, c ≤ b → b < c + n → Out S b) : Sm c n o o' := fun b h1 h2 => ⟨by unfold xk; rw [h.1], (h.2.2 b (ho b h1 h2)).1, (h.2.2 b (ho b h1 h2)).2⟩
theorem Fz.up {S T : List (Nat × Nat)} {o o' : xO} (h : Fz S o o') (hs : ∀ b, Out T b → Out S b) : Fz T o o' := ⟨h.1, h.2.1, fun b hb => h.2.2 b (hs b hb)⟩
theorem Fz.pf {X u : Nat} {o o' : xO} {v : Value} (h : Fz [(X, 108)] o o') : Fz [(X, 108), (u, 1)] o (xpf o' u 0 v) :=
  ⟨h.1, h.2.1, fun b hb => ⟨(h.2.2 b ⟨hb.1, trivial⟩).1, by rw [← (h.2.2 b ⟨hb.1, trivial⟩).2]; funext j; exact xpf_ne (fun e => absurd e (by have := hb.2.1; dsimp only at this; omega))⟩⟩
theorem Fz.u {X u : Nat} {o o' : xO} (h : Fz [(X, 108)] o o') : Fz [(X, 108), (u, 1)] o o' := h.up (fun b hb => ⟨hb.1, trivial⟩)
theorem Fz.k {S : List (Nat × Nat)} {o o' : xO} {b : Nat} (h : Fz S o o') : xk o' b = xk o b := by unfold xk; rw [h.1]
section RWL
variable {Q : xR → xO → Prop} {y : Nat} {is : List xI} {lv st : List Value} {o : xO} {len a b : Nat} {v : Value}
theorem RW.lst {r n : Nat} {x : Int64} {s : List Value} (hk : xk o r = (4, n)) (hn : 0 < n) (kk : RW Q y is lv s (xpf o r 0 (.long x))) : RW Q y ((.lastore, len, v, a, b) :: is) lv (.long x :: .int 0 :: .ref r :: s) o := by
  obtain ⟨h1, h2⟩ := xin_of (j := 0) (k := 0) (n := n) rfl hn
  exact RW.hp rfl (by unfold xhp; dsimp only; rw [hk, if_pos ⟨rfl, h1⟩, h2]) kk
theorem RW.lal {r n : Nat} {x : Int64} {s : List Value} (hk : xk o r = (4, n)) (hn : 0 < n) (hx : xf o r 0 = .long x) (kk : RW Q y is lv (.long x :: s) o) : RW Q y ((.laload, len, v, a, b) :: is) lv (.int 0 :: .ref r :: s) o := by
  obtain ⟨h1, h2⟩ := xin_of (j := 0) (k := 0) (n := n) rfl hn
  exact RW.hp rfl (by unfold xhp; dsimp only; rw [hk, if_pos ⟨rfl, h1⟩, h2, hx]; rfl) kk
end RWL
section LAW1
variable {o : xO} {X u : Nat} {z : Nat → Int} {t p : List Int32}
theorem no2_set {r : Int32} {v : Int64} : (s_set z r v).1 ≠ 2 := by unfold s_set; split <;> simp
theorem no2_move {r a : Int32} : (s_move z r a).1 ≠ 2 := by unfold s_move; split <;> simp
theorem no2_common {r a b : Int32} : (s_common z r a b).1 ≠ 2 := by unfold s_common; split <;> simp
theorem l_set (h : WI o X z t p) {r : Int32} {v : Int64} : Cq y_L_set [.ref X, .int r, .long v] o (fun w o' => w = .int (Int32.ofInt ((s_set z r v).1 : Nat)) ∧ Fz [(X, 108), (u, 1)] o o' ∧ WI o' X (s_set z r v).2 t p) := by
  refine RW.ps 3 rfl ?_
  refine RW.ca _ _ rfl rfl (xrc_v rfl rfl h.1.1) rfl rfl (c_set h) (fun r' o' hq => ?_)
  obtain ⟨q1, q2, q3⟩ := hq
  rcases q3 with ⟨q3, q4⟩ | ⟨q3, q4⟩ | ⟨q3, q4⟩
  · subst q4
    show RW _ y_L_set _ _ [] o'
    refine RW.go ?_
    refine RW.ps 1 rfl ?_
    exact RW.re rfl rfl ⟨_, rfl, by rw [q3]; rfl, q1.u, q2⟩
  · subst q4
    show RW _ y_L_set (xbk y_L_set 11) _ [] o'
    refine RW.ps 1 rfl ?_
    exact RW.re rfl rfl ⟨_, rfl, by rw [q3]; rfl, q1.u, q2⟩
  · exact absurd q3 no2_set
theorem l_move (h : WI o X z t p) {r a : Int32} : Cq y_L_move [.ref X, .int r, .int a] o (fun w o' => w = .int (Int32.ofInt ((s_move z r a).1 : Nat)) ∧ Fz [(X, 108), (u, 1)] o o' ∧ WI o' X (s_move z r a).2 t p) := by
  refine RW.ps 3 rfl ?_
  refine RW.ca _ _ rfl rfl (xrc_v rfl rfl h.1.1) rfl rfl (c_move h) (fun r' o' hq => ?_)
  obtain ⟨q1, q2, q3⟩ := hq
  rcases q3 with ⟨q3, q4⟩ | ⟨q3, q4⟩ | ⟨q3, q4⟩
  · subst q4
    show RW _ y_L_move _ _ [] o'
    refine RW.go ?_
    refine RW.ps 1 rfl ?_
    exact RW.re rfl rfl ⟨_, rfl, by rw [q3]; rfl, q1.u, q2⟩
  · subst q4
    show RW _ y_L_move (xbk y_L_move 10) _ [] o'
    refine RW.ps 1 rfl ?_
    exact RW.re rfl rfl ⟨_, rfl, by rw [q3]; rfl, q1.u, q2⟩
  · exact absurd q3 no2_move
theorem l_reckon (h : WI o X z t p) {r a b m : Int32} : Cq y_L_reckon [.ref X, .int r, .int a, .int b, .int m] o (fun w o' => w = .int (Int32.ofInt ((s_reckon z r a b m).1 : Nat)) ∧ Fz [(X, 108), (u, 1)] o o' ∧ WI o' X (s_reckon z r a b m).2 t p) := by
  refine RW.ps 5 rfl ?_
  refine RW.ca _ _ rfl rfl (xrc_v rfl rfl h.1.1) rfl rfl (c_reckon h) (fun r' o' hq => ?_)
  obtain ⟨q1, q2, q3⟩ := hq
  rcases q3 with ⟨q3, q4⟩ | ⟨q3, q4⟩ | ⟨q3, q4⟩
  · subst q4
    show RW _ y_L_reckon _ _ [] o'
    refine RW.go ?_
    refine RW.ps 1 rfl ?_
    exact RW.re rfl rfl ⟨_, rfl, by rw [q3]; rfl, q1.u, q2⟩
  · subst q4
    show RW _ y_L_reckon (xbk y_L_reckon 14) _ [] o'
    refine RW.ps 1 rfl ?_
    exact RW.re rfl rfl ⟨_, rfl, by rw [q3]; rfl, q1.u, q2⟩
  · subst q4
    show RW _ y_L_reckon (xbk y_L_reckon 18) _ [] o'
    refine RW.ps 1 rfl ?_
    exact RW.re rfl rfl ⟨_, rfl, by rw [q3]; rfl, q1.u, q2⟩
theorem l_divide (h : WI o X z t p) {r a b m : Int32} : Cq y_L_divide [.ref X, .int r, .int a, .int b, .int m] o (fun w o' => w = .int (Int32.ofInt ((s_divide z r a b m).1 : Nat)) ∧ Fz [(X, 108), (u, 1)] o o' ∧ WI o' X (s_divide z r a b m).2 t p) := by
  refine RW.ps 5 rfl ?_
  refine RW.ca _ _ rfl rfl (xrc_v rfl rfl h.1.1) rfl rfl (c_wdivide h) (fun r' o' hq => ?_)
  obtain ⟨q1, q2, q3⟩ := hq
  rcases q3 with ⟨q3, q4⟩ | ⟨q3, q4⟩ | ⟨q3, q4⟩
  · subst q4
    show RW _ y_L_divide _ _ [] o'
    refine RW.go ?_
    refine RW.ps 1 rfl ?_
    exact RW.re rfl rfl ⟨_, rfl, by rw [q3]; rfl, q1.u, q2⟩
  · subst q4
    show RW _ y_L_divide (xbk y_L_divide 14) _ [] o'
    refine RW.ps 1 rfl ?_
    exact RW.re rfl rfl ⟨_, rfl, by rw [q3]; rfl, q1.u, q2⟩
  · subst q4
    show RW _ y_L_divide (xbk y_L_divide 18) _ [] o'
    refine RW.ps 1 rfl ?_
    exact RW.re rfl rfl ⟨_, rfl, by rw [q3]; rfl, q1.u, q2⟩
theorem l_combine (h : WI o X z t p) {r a b m : Int32} : Cq y_L_combine [.ref X, .int r, .int a, .int b, .int m] o (fun w o' => w = .int (Int32.ofInt ((s_combine z r a b m).1 : Nat)) ∧ Fz [(X, 108), (u, 1)] o o' ∧ WI o' X (s_combine z r a b m).2 t p) := by
  refine RW.ps 5 rfl ?_
  refine RW.ca _ _ rfl rfl (xrc_v rfl rfl h.1.1) rfl rfl (c_wcombine h) (fun r' o' hq => ?_)
  obtain ⟨q1, q2, q3⟩ := hq
  rcases q3 with ⟨q3, q4⟩ | ⟨q3, q4⟩ | ⟨q3, q4⟩
  · subst q4
    show RW _ y_L_combine _ _ [] o'
    refine RW.go ?_
    refine RW.ps 1 rfl ?_
    exact RW.re rfl rfl ⟨_, rfl, by rw [q3]; rfl, q1.u, q2⟩
  · subst q4
    show RW _ y_L_combine (xbk y_L_combine 14) _ [] o'
    refine RW.ps 1 rfl ?_
    exact RW.re rfl rfl ⟨_, rfl, by rw [q3]; rfl, q1.u, q2⟩
  · subst q4
    show RW _ y_L_combine (xbk y_L_combine 18) _ [] o'
    refine RW.ps 1 rfl ?_
    exact RW.re rfl rfl ⟨_, rfl, by rw [q3]; rfl, q1.u, q2⟩
theorem l_shift (h : WI o X z t p) {r a m : Int32} : Cq y_L_shift [.ref X, .int r, .int a, .int m] o (fun w o' => w = .int (Int32.ofInt ((s_shift z r a m).1 : Nat)) ∧ Fz [(X, 108), (u, 1)] o o' ∧ WI o' X (s_shift z r a m).2 t p) := by
  refine RW.ps 4 rfl ?_
  refine RW.ca _ _ rfl rfl (xrc_v rfl rfl h.1.1) rfl rfl (c_wshift h) (fun r' o' hq => ?_)
  obtain ⟨q1, q2, q3⟩ := hq
  rcases q3 with ⟨q3, q4⟩ | ⟨q3, q4⟩ | ⟨q3, q4⟩
  · subst q4
    show RW _ y_L_shift _ _ [] o'
    refine RW.go ?_
    refine RW.ps 1 rfl ?_
    exact RW.re rfl rfl ⟨_, rfl, by rw [q3]; rfl, q1.u, q2⟩
  · subst q4
    show RW _ y_L_shift (xbk y_L_shift 12) _ [] o'
    refine RW.ps 1 rfl ?_
    exact RW.re rfl rfl ⟨_, rfl, by rw [q3]; rfl, q1.u, q2⟩
  · subst q4
    show RW _ y_L_shift (xbk y_L_shift 16) _ [] o'
    refine RW.ps 1 rfl ?_
    exact RW.re rfl rfl ⟨_, rfl, by rw [q3]; rfl, q1.u, q2⟩
theorem l_power (h : WI o X z t p) {r a m : Int32} : Cq y_L_power [.ref X, .int r, .int a, .int m] o (fun w o' => w = .int (Int32.ofInt ((s_power z r a m).1 : Nat)) ∧ Fz [(X, 108), (u, 1)] o o' ∧ WI o' X (s_power z r a m).2 t p) := by
  refine RW.ps 4 rfl ?_
  refine RW.ca _ _ rfl rfl (xrc_v rfl rfl h.1.1) rfl rfl (c_wpower h) (fun r' o' hq => ?_)
  obtain ⟨q1, q2, q3⟩ := hq
  rcases q3 with ⟨q3, q4⟩ | ⟨q3, q4⟩ | ⟨q3, q4⟩
  · subst q4
    show RW _ y_L_power _ _ [] o'
    refine RW.go ?_
    refine RW.ps 1 rfl ?_
    exact RW.re rfl rfl ⟨_, rfl, by rw [q3]; rfl, q1.u, q2⟩
  · subst q4
    show RW _ y_L_power (xbk y_L_power 12) _ [] o'
    refine RW.ps 1 rfl ?_
    exact RW.re rfl rfl ⟨_, rfl, by rw [q3]; rfl, q1.u, q2⟩
  · subst q4
    show RW _ y_L_power (xbk y_L_power 16) _ [] o'
    refine RW.ps 1 rfl ?_
    exact RW.re rfl rfl ⟨_, rfl, by rw [q3]; rfl, q1.u, q2⟩
theorem l_root (h : WI o X z t p) {r a : Int32} : Cq y_L_root [.ref X, .int r, .int a] o (fun w o' => w = .int (Int32.ofInt ((s_root z r a).1 : Nat)) ∧ Fz [(X, 108), (u, 1)] o o' ∧ WI o' X (s_root z r a).2 t p) := by
  refine RW.ps 3 rfl ?_
  refine RW.ca _ _ rfl rfl (xrc_v rfl rfl h.1.1) rfl rfl (c_wroot h) (fun r' o' hq => ?_)
  obtain ⟨q1, q2, q3⟩ := hq
  rcases q3 with ⟨q3, q4⟩ | ⟨q3, q4⟩ | ⟨q3, q4⟩
  · subst q4
    show RW _ y_L_root _ _ [] o'
    refine RW.go ?_
    refine RW.ps 1 rfl ?_
    exact RW.re rfl rfl ⟨_, rfl, by rw [q3]; rfl, q1.u, q2⟩
  · subst q4
    show RW _ y_L_root (xbk y_L_root 10) _ [] o'
    refine RW.ps 1 rfl ?_
    exact RW.re rfl rfl ⟨_, rfl, by rw [q3]; rfl, q1.u, q2⟩
  · subst q4
    show RW _ y_L_root (xbk y_L_root 13) _ [] o'
    refine RW.ps 1 rfl ?_
    exact RW.re rfl rfl ⟨_, rfl, by rw [q3]; rfl, q1.u, q2⟩
theorem l_common (h : WI o X z t p) {r a b : Int32} : Cq y_L_common [.ref X, .int r, .int a, .int b] o (fun w o' => w = .int (Int32.ofInt ((s_common z r a b).1 : Nat)) ∧ Fz [(X, 108), (u, 1)] o o' ∧ WI o' X (s_common z r a b).2 t p) := by
  refine RW.ps 4 rfl ?_
  refine RW.ca _ _ rfl rfl (xrc_v rfl rfl h.1.1) rfl rfl (c_wcommon h) (fun r' o' hq => ?_)
  obtain ⟨q1, q2, q3⟩ := hq
  rcases q3 with ⟨q3, q4⟩ | ⟨q3, q4⟩ | ⟨q3, q4⟩
  · subst q4
    show RW _ y_L_common _ _ [] o'
    refine RW.go ?_
    refine RW.ps 1 rfl ?_
    exact RW.re rfl rfl ⟨_, rfl, by rw [q3]; rfl, q1.u, q2⟩
  · subst q4
    show RW _ y_L_common (xbk y_L_common 12) _ [] o'
    refine RW.ps 1 rfl ?_
    exact RW.re rfl rfl ⟨_, rfl, by rw [q3]; rfl, q1.u, q2⟩
  · exact absurd q3 no2_common
theorem l_powerRest (h : WI o X z t p) {r a b m : Int32} : Cq y_L_powerRest [.ref X, .int r, .int a, .int b, .int m] o (fun w o' => w = .int (Int32.ofInt ((s_powerRest z r a b m).1 : Nat)) ∧ Fz [(X, 108), (u, 1)] o o' ∧ WI o' X (s_powerRest z r a b m).2 t p) := by
  refine RW.ps 5 rfl ?_
  refine RW.ca _ _ rfl rfl (xrc_v rfl rfl h.1.1) rfl rfl (c_wpowerRest h) (fun r' o' hq => ?_)
  obtain ⟨q1, q2, q3⟩ := hq
  rcases q3 with ⟨q3, q4⟩ | ⟨q3, q4⟩ | ⟨q3, q4⟩
  · subst q4
    show RW _ y_L_powerRest _ _ [] o'
    refine RW.go ?_
    refine RW.ps 1 rfl ?_
    exact RW.re rfl rfl ⟨_, rfl, by rw [q3]; rfl, q1.u, q2⟩
  · subst q4
    show RW _ y_L_powerRest (xbk y_L_powerRest 14) _ [] o'
    refine RW.ps 1 rfl ?_
    exact RW.re rfl rfl ⟨_, rfl, by rw [q3]; rfl, q1.u, q2⟩
  · subst q4
    show RW _ y_L_powerRest (xbk y_L_powerRest 18) _ [] o'
    refine RW.ps 1 rfl ?_
    exact RW.re rfl rfl ⟨_, rfl, by rw [q3]; rfl, q1.u, q2⟩
theorem l_compare (h : WI o X z t p) (hu : xk o u = (4, 1)) (hX : X + 108 ≤ u) {a b : Int32} : Cq y_L_compare [.ref X, .int a, .int b, .ref u] o (fun w o' => w = .int (Int32.ofInt ((if okr a ∧ okr b then 0 else 1 : Nat) : Int)) ∧ Fz [(X, 108), (u, 1)] o o' ∧ WI o' X z t p ∧ ((if okr a ∧ okr b then 0 else 1 : Nat) = 0 → xf o' u 0 = .long ((cmpZ (z (rx a)) (z (rx b))).toInt64))) := by
  refine RW.ps 5 rfl ?_
  refine RW.ca _ _ rfl rfl (xrc_v rfl rfl h.1.1) rfl rfl (c_wcompare h) (fun r' o' hq => ?_)
  obtain ⟨q1, q2, q3⟩ := hq
  rcases q3 with ⟨q3, q4⟩ | ⟨q3, q4⟩
  · subst q4
    show RW _ y_L_compare _ _ [_, .int 0, .ref u] o'
    have hk := (q1.k (b := u)).trans hu
    refine RW.ps 1 rfl ?_
    refine RW.lst hk (by decide) ?_
    refine RW.go ?_
    refine RW.ps 1 rfl ?_
    exact RW.re rfl rfl ⟨_, rfl, by rw [q3]; rfl, q1.pf, q2.sm (Sm.pf (by omega)), fun _ => xpf_same⟩
  · subst q4
    show RW _ y_L_compare (xbk y_L_compare 15) _ [] o'
    refine RW.ps 1 rfl ?_
    exact RW.re rfl rfl ⟨_, rfl, by rw [q3]; rfl, q1.u, q2, fun k => by rw [q3] at k; cases k⟩
theorem l_low (h : WI o X z t p) (hu : xk o u = (4, 1)) (hX : X + 108 ≤ u) {a : Int32} : Cq y_L_low [.ref X, .int a, .ref u] o (fun w o' => w = .int (Int32.ofInt ((if okr a then 0 else 1 : Nat) : Int)) ∧ Fz [(X, 108), (u, 1)] o o' ∧ WI o' X z t p ∧ ((if okr a then 0 else 1 : Nat) = 0 → xf o' u 0 = .long (Int64.ofInt (z (rx a))))) := by
  refine RW.ps 4 rfl ?_
  refine RW.ca _ _ rfl rfl (xrc_v rfl rfl h.1.1) rfl rfl (c_wlow h) (fun r' o' hq => ?_)
  obtain ⟨q1, q2, q3⟩ := hq
  rcases q3 with ⟨q3, q4⟩ | ⟨q3, q4⟩
  · subst q4
    show RW _ y_L_low _ _ [_, .int 0, .ref u] o'
    have hk := (q1.k (b := u)).trans hu
    refine RW.lst hk (by decide) ?_
    refine RW.go ?_
    refine RW.ps 1 rfl ?_
    exact RW.re rfl rfl ⟨_, rfl, by rw [q3]; rfl, q1.pf, q2.sm (Sm.pf (by omega)), fun _ => xpf_same⟩
  · subst q4
    show RW _ y_L_low (xbk y_L_low 12) _ [] o'
    refine RW.ps 1 rfl ?_
    exact RW.re rfl rfl ⟨_, rfl, by rw [q3]; rfl, q1.u, q2, fun k => by rw [q3] at k; cases k⟩
theorem l_length (h : WI o X z t p) (hu : xk o u = (4, 1)) (hX : X + 108 ≤ u) {a : Int32} : Cq y_L_length [.ref X, .int a, .ref u] o (fun w o' => w = .int (Int32.ofInt ((if okr a then 0 else 1 : Nat) : Int)) ∧ Fz [(X, 108), (u, 1)] o o' ∧ WI o' X z t p ∧ ((if okr a then 0 else 1 : Nat) = 0 → xf o' u 0 = .long ((Int32.ofInt (nbit (core (z (rx a))) : Nat)).toInt64))) := by
  refine RW.ps 4 rfl ?_
  refine RW.ca _ _ rfl rfl (xrc_v rfl rfl h.1.1) rfl rfl (c_wlength h) (fun r' o' hq => ?_)
  obtain ⟨q1, q2, q3⟩ := hq
  rcases q3 with ⟨q3, q4⟩ | ⟨q3, q4⟩
  · subst q4
    show RW _ y_L_length _ _ [_, .int 0, .ref u] o'
    have hk := (q1.k (b := u)).trans hu
    refine RW.ps 1 rfl ?_
    refine RW.lst hk (by decide) ?_
    refine RW.go ?_
    refine RW.ps 1 rfl ?_
    exact RW.re rfl rfl ⟨_, rfl, by rw [q3]; rfl, q1.pf, q2.sm (Sm.pf (by omega)), fun _ => xpf_same⟩
  · subst q4
    show RW _ y_L_length (xbk y_L_length 13) _ [] o'
    refine RW.ps 1 rfl ?_
    exact RW.re rfl rfl ⟨_, rfl, by rw [q3]; rfl, q1.u, q2, fun k => by rw [q3] at k; cases k⟩
theorem l_ones (h : WI o X z t p) (hu : xk o u = (4, 1)) (hX : X + 108 ≤ u) {a : Int32} : Cq y_L_ones [.ref X, .int a, .ref u] o (fun w o' => w = .int (Int32.ofInt ((if okr a then 0 else 1 : Nat) : Int)) ∧ Fz [(X, 108), (u, 1)] o o' ∧ WI o' X z t p ∧ ((if okr a then 0 else 1 : Nat) = 0 → xf o' u 0 = .long ((Int32.ofInt (pc (nbit (core (z (rx a)))) (core (z (rx a))) : Nat)).toInt64))) := by
  refine RW.ps 4 rfl ?_
  refine RW.ca _ _ rfl rfl (xrc_v rfl rfl h.1.1) rfl rfl (c_wones h) (fun r' o' hq => ?_)
  obtain ⟨q1, q2, q3⟩ := hq
  rcases q3 with ⟨q3, q4⟩ | ⟨q3, q4⟩
  · subst q4
    show RW _ y_L_ones _ _ [_, .int 0, .ref u] o'
    have hk := (q1.k (b := u)).trans hu
    refine RW.ps 1 rfl ?_
    refine RW.lst hk (by decide) ?_
    refine RW.go ?_
    refine RW.ps 1 rfl ?_
    exact RW.re rfl rfl ⟨_, rfl, by rw [q3]; rfl, q1.pf, q2.sm (Sm.pf (by omega)), fun _ => xpf_same⟩
  · subst q4
    show RW _ y_L_ones (xbk y_L_ones 13) _ [] o'
    refine RW.ps 1 rfl ?_
    exact RW.re rfl rfl ⟨_, rfl, by rw [q3]; rfl, q1.u, q2, fun k => by rw [q3] at k; cases k⟩
theorem l_bit (h : WI o X z t p) (hu : xk o u = (4, 1)) (hX : X + 108 ≤ u) {a i : Int32} : Cq y_L_bit [.ref X, .int a, .int i, .ref u] o (fun w o' => w = .int (Int32.ofInt ((if okr a ∧ 0 ≤ i.toInt then 0 else 1 : Nat) : Int)) ∧ Fz [(X, 108), (u, 1)] o o' ∧ WI o' X z t p ∧ ((if okr a ∧ 0 ≤ i.toInt then 0 else 1 : Nat) = 0 → xf o' u 0 = .long ((if bitz (z (rx a)) i = true then 1 else 0)))) := by
  refine RW.ps 5 rfl ?_
  refine RW.ca _ _ rfl rfl (xrc_v rfl rfl h.1.1) rfl rfl (c_wbit h) (fun r' o' hq => ?_)
  obtain ⟨q1, q2, q3⟩ := hq
  rcases q3 with ⟨q3, q4⟩ | ⟨q3, q4⟩
  · subst q4
    show RW _ y_L_bit _ _ [_, .int 0, .ref u] o'
    have hk := (q1.k (b := u)).trans hu
    have h16 : ∀ x : Int64, x = (if bitz (z (rx a)) i = true then 1 else 0) → ∀ lv, RW (fun q o' => ∃ w, q = .inl (some w) ∧ (w = .int (Int32.ofInt ((if okr a ∧ 0 ≤ i.toInt then 0 else 1 : Nat) : Int)) ∧ Fz [(X, 108), (u, 1)] o o' ∧ WI o' X z t p ∧ ((if okr a ∧ 0 ≤ i.toInt then 0 else 1 : Nat) = 0 → xf o' u 0 = .long ((if bitz (z (rx a)) i = true then 1 else 0))))) y_L_bit (xbk y_L_bit 16) lv [.long x, .int 0, .ref u] o' := by
      intro x hx lv
      subst hx
      refine RW.lst hk (by decide) ?_
      refine RW.go ?_
      refine RW.ps 1 rfl ?_
      exact RW.re rfl rfl ⟨_, rfl, by rw [q3]; rfl, q1.pf, q2.sm (Sm.pf (by omega)), fun _ => xpf_same⟩
    refine RW.ifc (fun k => ?_) (fun k => ?_)
    · have hb := sg_bool.mp k
      refine RW.ps 1 rfl ?_
      exact h16 0 (by rw [hb]; rfl) _
    · have hb := sgt k
      refine RW.ps 1 rfl ?_
      refine RW.go ?_
      exact h16 1 (by rw [hb]; rfl) _
  · subst q4
    show RW _ y_L_bit (xbk y_L_bit 22) _ [] o'
    refine RW.ps 1 rfl ?_
    exact RW.re rfl rfl ⟨_, rfl, by rw [q3]; rfl, q1.u, q2, fun k => by rw [q3] at k; cases k⟩
theorem l_read (h : WI o X z t p) (hu : xk o u = (4, 1)) (hX : X + 108 ≤ u) {r b : Int32} : Cq y_L_read [.ref X, .int r, .int b, .ref u] o (fun w o' => w = .int (Int32.ofInt ((if okr r ∧ okb b then 0 else 1 : Nat) : Int)) ∧ Fz [(X, 108), (u, 1)] o o' ∧ WI o' X (if okr r ∧ okb b then rdZ z t r b else z) (if okr r ∧ okb b then [] else t) p ∧ ((if okr r ∧ okb b then 0 else 1 : Nat) = 0 → xf o' u 0 = .long ((Int32.ofInt (rdA t b)).toInt64))) := by
  refine RW.ps 5 rfl ?_
  refine RW.ca _ _ rfl rfl (xrc_v rfl rfl h.1.1) rfl rfl (c_wread h) (fun r' o' hq => ?_)
  obtain ⟨q1, q2, q3⟩ := hq
  rcases q3 with ⟨q3, q4⟩ | ⟨q3, q4⟩
  · subst q4
    show RW _ y_L_read _ _ [_, .int 0, .ref u] o'
    have hk := (q1.k (b := u)).trans hu
    refine RW.ps 1 rfl ?_
    refine RW.lst hk (by decide) ?_
    refine RW.go ?_
    refine RW.ps 1 rfl ?_
    exact RW.re rfl rfl ⟨_, rfl, by rw [q3]; rfl, q1.pf, q2.sm (Sm.pf (by omega)), fun _ => xpf_same⟩
  · subst q4
    show RW _ y_L_read (xbk y_L_read 15) _ [] o'
    refine RW.ps 1 rfl ?_
    exact RW.re rfl rfl ⟨_, rfl, by rw [q3]; rfl, q1.u, q2, fun k => by rw [q3] at k; cases k⟩
theorem l_print (h : WI o X z t p) (hu : xk o u = (4, 1)) (hX : X + 108 ≤ u) {a b : Int32} : Cq y_L_print [.ref X, .int a, .int b, .ref u] o (fun w o' => w = .int (Int32.ofInt ((if okr a ∧ okb b then 0 else 1 : Nat) : Int)) ∧ Fz [(X, 108), (u, 1)] o o' ∧ WI o' X z t (if okr a ∧ okb b then pr (z (rx a)) b.toInt.toNat else p) ∧ ((if okr a ∧ okb b then 0 else 1 : Nat) = 0 → xf o' u 0 = .long ((Int32.ofInt ((pr (z (rx a)) b.toInt.toNat).length : Nat)).toInt64))) := by
  refine RW.ps 5 rfl ?_
  refine RW.ca _ _ rfl rfl (xrc_v rfl rfl h.1.1) rfl rfl (c_wprint h) (fun r' o' hq => ?_)
  obtain ⟨q1, q2, q3⟩ := hq
  rcases q3 with ⟨q3, q4⟩ | ⟨q3, q4⟩
  · subst q4
    show RW _ y_L_print _ _ [_, .int 0, .ref u] o'
    have hk := (q1.k (b := u)).trans hu
    refine RW.ps 1 rfl ?_
    refine RW.lst hk (by decide) ?_
    refine RW.go ?_
    refine RW.ps 1 rfl ?_
    exact RW.re rfl rfl ⟨_, rfl, by rw [q3]; rfl, q1.pf, q2.sm (Sm.pf (by omega)), fun _ => xpf_same⟩
  · subst q4
    show RW _ y_L_print (xbk y_L_print 15) _ [] o'
    refine RW.ps 1 rfl ?_
    exact RW.re rfl rfl ⟨_, rfl, by rw [q3]; rfl, q1.u, q2, fun k => by rw [q3] at k; cases k⟩
end LAW1
