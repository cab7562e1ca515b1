/-! CONSTRUCTORS. What is built lies at lo .. hi; all below lo is as it was. -/
def Gw (lo hi dc dn : Nat) (o o' : xO) : Prop := xz o' = hi ∧ xc o' = xc o + dc ∧ xn o' = xn o + dn ∧ ∀ b, b < lo → xk o' b = xk o b ∧ xi o' b = xi o b ∧ xf o' b = xf o b
def Sm (c n : Nat) (o o' : xO) : Prop := ∀ b, c ≤ b → b < c + n → xk o' b = xk o b ∧ xi o' b = xi o b ∧ xf o' b = xf o b
section GW
variable {o o' o2 : xO} {lo hi dc dn lo2 hi2 dc2 dn2 c n : Nat}
theorem Gw.refl (h : xz o = hi) : Gw lo hi 0 0 o o := ⟨h, rfl, rfl, fun _ _ => ⟨rfl, rfl, rfl⟩⟩
theorem Gw.trans (g : Gw lo hi dc dn o o') (g2 : Gw lo2 hi2 dc2 dn2 o' o2) (h : lo ≤ lo2) : Gw lo hi2 (dc + dc2) (dn + dn2) o o2 :=
  ⟨g2.1, by rw [g2.2.1, g.2.1, Nat.add_assoc], by rw [g2.2.2.1, g.2.2.1, Nat.add_assoc], fun b hb => ⟨((g2.2.2.2 b (by omega)).1).trans (g.2.2.2 b hb).1, ((g2.2.2.2 b (by omega)).2.1).trans (g.2.2.2 b hb).2.1, ((g2.2.2.2 b (by omega)).2.2).trans (g.2.2.2 b hb).2.2⟩⟩
theorem Gw.pf (g : Gw lo hi dc dn o o') {p j : Nat} {v : Value} (h : lo ≤ p) : Gw lo hi dc dn o (xpf o' p j v) :=
  ⟨g.1, g.2.1, g.2.2.1, fun b hb => ⟨(g.2.2.2 b hb).1, (g.2.2.2 b hb).2.1, by rw [← (g.2.2.2 b hb).2.2]; funext k; exact xpf_ne (fun e => absurd e (by omega))⟩⟩
theorem Gw.sm (g : Gw lo hi dc dn o o') (h : c + n ≤ lo) : Sm c n o o' := fun b _ h2 => g.2.2.2 b (by omega)
theorem Gw.k (g : Gw lo hi dc dn o o') {b : Nat} (h : b < lo) : xk o' b = xk o b := (g.2.2.2 b h).1
theorem Gw.f (g : Gw lo hi dc dn o o') {b : Nat} (h : b < lo) (j : Nat) : xf o' b j = xf o b j := by rw [(g.2.2.2 b h).2.2]
theorem Gw.i (g : Gw lo hi dc dn o o') {b : Nat} (h : b < lo) : xi o' b = xi o b := (g.2.2.2 b h).2.1
theorem Sm.pf {p j : Nat} {v : Value} (h : p < c ∨ c + n ≤ p) : Sm c n o (xpf o p j v) := fun b h1 h2 => ⟨rfl, rfl, by funext k; exact xpf_ne (fun e => absurd e (by omega))⟩
theorem Sm.sub {c2 n2 : Nat} (s : Sm c n o o') (h1 : c ≤ c2) (h2 : c2 + n2 ≤ c + n) : Sm c2 n2 o o' := fun b k1 k2 => s b (by omega) (by omega)
theorem Rn.sm {r x : Nat} (h : Rn o r x) (s : Sm r 2 o o') : Rn o' r x := by
  have a := s r (by omega) (by omega)
  have b := s (r + 1) (by omega) (by omega)
  exact ⟨⟨by rw [a.1]; exact h.1.1, by rw [a.2.2]; exact h.1.2.1, by rw [b.1]; exact h.1.2.2⟩, h.2.1, by rw [b.2.1]; exact h.2.2.1, by rw [a.2.2]; exact h.2.2.2⟩
theorem Rx.sm {r : Nat} (h : Rx o r) (s : Sm r 2 o o') : Rx o' r := h.elim (fun x hx => ⟨x, hx.sm s⟩)
theorem Wn.sm {w : Nat} {z : Int} (h : Wn o w z) (s : Sm w 3 o o') : Wn o' w z := by
  have a := s w (by omega) (by omega)
  exact ⟨by rw [a.1]; exact h.1, by rw [a.2.2]; exact h.2.1, h.2.2.1.sm (s.sub (by omega) (by omega)), by rw [a.2.2]; exact h.2.2.2⟩
theorem IsDv.sm {d : Nat} (h : IsDv o d) (s : Sm d 1 o o') : IsDv o' d := by
  have a := s d (by omega) (by omega)
  exact ⟨by rw [a.1]; exact h.1, by rw [a.2.2]; exact h.2.1, by rw [a.2.2]; exact h.2.2.1, by rw [a.2.2]; exact h.2.2.2⟩
theorem ZD.sm {d : Nat} (h : ZD o d) (s : Sm d 7 o o') : ZD o' d := ⟨h.1.sm (s.sub (by omega) (by omega)), h.2.1.sm (s.sub (by omega) (by omega)), h.2.2.1.sm (s.sub (by omega) (by omega)), h.2.2.2.sm (s.sub (by omega) (by omega))⟩
theorem ZP.sm {P : Nat} (h : ZP o P) (s : Sm P 14 o o') : ZP o' P := by
  have a := s P (by omega) (by omega)
  obtain ⟨⟨h1, h2, h3, h4, h5, h6⟩, h7, h8, h9, h10, h11, h12⟩ := h
  exact ⟨⟨by rw [a.1]; exact h1, by rw [a.2.2]; exact h2, by rw [a.2.2]; exact h3, by rw [a.2.2]; exact h4, by rw [a.2.2]; exact h5, h6.sm (s.sub (by omega) (by omega))⟩, h7.sm (s.sub (by omega) (by omega)), h8.sm (s.sub (by omega) (by omega)), h9.sm (s.sub (by omega) (by omega)), h10.sm (s.sub (by omega) (by omega)), h11.sm (s.sub (by omega) (by omega)), h12.sm (s.sub (by omega) (by omega))⟩
theorem ZR.sm {P : Nat} (h : ZR o P) (s : Sm P 12 o o') : ZR o' P := by
  have a := s P (by omega) (by omega)
  obtain ⟨⟨h1, h2, h3, h4, h6⟩, h7, h8, h10, h11, h12⟩ := h
  exact ⟨⟨by rw [a.1]; exact h1, by rw [a.2.2]; exact h2, by rw [a.2.2]; exact h3, by rw [a.2.2]; exact h4, h6.sm (s.sub (by omega) (by omega))⟩, h7.sm (s.sub (by omega) (by omega)), h8.sm (s.sub (by omega) (by omega)), h10.sm (s.sub (by omega) (by omega)), h11.sm (s.sub (by omega) (by omega)), h12.sm (s.sub (by omega) (by omega))⟩
theorem ZG.sm {P : Nat} (h : ZG o P) (s : Sm P 12 o o') : ZG o' P := by
  have a := s P (by omega) (by omega)
  obtain ⟨⟨h1, h2, h3, h4, h6⟩, h7, h8, h10, h11, h12⟩ := h
  exact ⟨⟨by rw [a.1]; exact h1, by rw [a.2.2]; exact h2, by rw [a.2.2]; exact h3, by rw [a.2.2]; exact h4, h6.sm (s.sub (by omega) (by omega))⟩, h7.sm (s.sub (by omega) (by omega)), h8.sm (s.sub (by omega) (by omega)), h10.sm (s.sub (by omega) (by omega)), h11.sm (s.sub (by omega) (by omega)), h12.sm (s.sub (by omega) (by omega))⟩
theorem Tx.sm {t : Nat} {l : List Int32} (h : Tx o t l) (s : Sm t 2 o o') : Tx o' t l := by
  have a := s t (by omega) (by omega)
  have b := s (t + 1) (by omega) (by omega)
  exact ⟨by rw [a.1]; exact h.1, by rw [a.2.2]; exact h.2.1, by rw [b.1]; exact h.2.2.1, h.2.2.2.1, by rw [a.2.2]; exact h.2.2.2.2.1, fun i hi => by rw [b.2.1]; exact h.2.2.2.2.2 i hi⟩
theorem ZA.sm {g : Nat} {l : List Int32} (h : ZA o g l) (s : Sm g 4 o o') : ZA o' g l := by
  have a := s g (by omega) (by omega)
  have b := s (g + 1) (by omega) (by omega)
  obtain ⟨⟨h1, h2, h3, h4, h5, h6, h7⟩, h8⟩ := h
  exact ⟨⟨by rw [a.1]; exact h1, by rw [a.2.2]; exact h2, by rw [a.2.2]; exact h3, by rw [b.1]; exact h4, h5, by rw [a.2.2]; exact h6, fun i hi => by rw [b.2.1]; exact h7 i hi⟩, h8.sm (s.sub (by omega) (by omega))⟩
theorem Gw.mk {s m : Nat} {kd : Nat × Nat} {fs : Nat → Value} (hs : xz o = s) : Gw s (s + 1) 1 m o (xmk o kd m fs) := by
  subst hs
  exact ⟨rfl, rfl, rfl, fun b hb => ⟨if_neg (by show ¬ b = o.2.2.2.1; have : xz o = o.2.2.2.1 := rfl; omega), if_neg (by show ¬ b = o.2.2.2.1; have : xz o = o.2.2.2.1 := rfl; omega), if_neg (by show ¬ b = o.2.2.2.1; have : xz o = o.2.2.2.1 := rfl; omega)⟩⟩
theorem mk_k {s m : Nat} {kd : Nat × Nat} {fs : Nat → Value} (hs : xz o = s) : xk (xmk o kd m fs) s = kd := by subst hs; exact if_pos rfl
theorem mk_f {s m : Nat} {kd : Nat × Nat} {fs : Nat → Value} (hs : xz o = s) (k : Nat) : xf (xmk o kd m fs) s k = fs k := by subst hs; exact congrFun (if_pos rfl) k
theorem mk_i {s m : Nat} {kd : Nat × Nat} {fs : Nat → Value} (hs : xz o = s) : xi (xmk o kd m fs) s = fun _ => 0 := by subst hs; exact if_pos rfl
end GW
section RWN
variable {Q : xR → xO → Prop} {y : Nat} {is : List xI} {lv st : List Value} {o : xO} {len a b : Nat} {v : Value}
theorem RW.obj {ix r : Nat} (hs : xsum st ≤ 8) (k : RW Q y is lv st o) : RW Q y ((.invokespecial ix, len, v, a, 9) :: is) lv (.ref r :: st) o :=
  RW.hp rfl (by unfold xhp; dsimp only; rw [if_pos hs]) k
theorem RW.new {ix s : Nat} (hs : xz o = s) (h0 : 0 < s) (k : RW Q y is lv (.ref s :: st) (xmk o (3, a) (xnf a) (fun k => defaultValue (xft a k)))) : RW Q y ((.new ix, len, v, a, 0) :: is) lv st o :=
  RW.hp rfl (by unfold xhp; dsimp only; rw [if_neg (by omega), hs]) k
theorem RW.na {t : Jvm.ClassFile.ArrayType} {s k : Nat} {j : Int32} (hs : xz o = s) (h0 : 0 < s) (hj : j.toInt = (k : Int)) (hk : k ≤ 67108864) (kk : RW Q y is lv (.ref s :: st) (xmk o (a, k) k (fun _ => .long 0))) : RW Q y ((.newarray t, len, v, a, b) :: is) lv (.int j :: st) o := by
  have h1 : j.toNatClampNeg = k := by show j.toInt.toNat = k; rw [hj]; rfl
  refine RW.hp rfl (by unfold xhp; dsimp only; rw [h1, if_neg (by rw [Int32.lt_iff_toInt_lt, hj, i0]; omega), hs]) kk
theorem RW.an {ix s k : Nat} {j : Int32} (hs : xz o = s) (h0 : 0 < s) (hj : j.toInt = (k : Int)) (hk : k ≤ 67108864) (kk : RW Q y is lv (.ref s :: st) (xmk o (5, k) k (fun _ => .null))) : RW Q y ((.anewarray ix, len, v, a, b) :: is) lv (.int j :: st) o := by
  have h1 : j.toNatClampNeg = k := by show j.toInt.toNat = k; rw [hj]; rfl
  refine RW.hp rfl (by unfold xhp; dsimp only; rw [h1, if_neg (by rw [Int32.lt_iff_toInt_lt, hj, i0]; omega), hs]) kk
theorem RW.aas {r k n x : Nat} {j : Int32} {s : List Value} (hk : xk o r = (5, n)) (hj : j.toInt = (k : Int)) (hn : k < n) (hx : xk o x = (3, 1)) (kk : RW Q y is lv s (xpf o r k (.ref x))) : RW Q y ((.aastore, len, v, a, b) :: is) lv (.ref x :: .int j :: .ref r :: s) o := by
  obtain ⟨h1, h2⟩ := xin_of hj hn
  exact RW.hp rfl (by unfold xhp; dsimp only; rw [hk, if_pos ⟨rfl, hx, h1⟩, h2]) kk
/-- an object is made, and its constructor run -/
theorem RW.mk {ix ix2 s cls ini sz dc dn l1 l2 l3 b3 : Nat} {v1 v2 : Value} {Z : xO → Prop} (hs : xz o = s) (h0 : 0 < s) (hini : ∀ o1, xk o1 s = (3, cls) → xz o1 = s + 1 → (∀ k, xf o1 s k = defaultValue (xft cls k)) → Cv ini [.ref s] o1 (fun o' => Gw s (s + sz) dc dn o1 o' ∧ Z o'))
    (h1 : xrc b3 (xmk o (3, cls) (xnf cls) (fun k => defaultValue (xft cls k))) [.ref s] = true) (h2 : Nat.ble (xsum (.ref s :: st)) 8 = true) (h3 : Nat.ble 1 (xml ini) = true) (hg : xgo (.invokespecial ix2) b3 = 5) (k : ∀ o', Gw s (s + sz) (1 + dc) (xnf cls + dn) o o' → Z o' → RW Q y is lv (.ref s :: st) o') :
    RW Q y ((.new ix, l1, v1, cls, 0) :: (.dup, l2, v2, 0, 0) :: (.invokespecial ix2, l3, .retAddr 1, ini, b3) :: is) lv st o := by
  refine RW.new hs h0 ?_
  refine RW.ps 1 rfl ?_
  refine RW.cv (args := [.ref s]) hg rfl h1 h2 h3 (hini _ (mk_k hs) (Gw.mk (m := xnf cls) (kd := (3, cls)) (fs := fun k => defaultValue (xft cls k)) hs).1 (mk_f hs)) ?_
  intro o' ⟨g, z⟩
  exact k o' ((Gw.mk hs).trans g (Nat.le_refl _)) z
end RWN
theorem c_rowInit {o : xO} {r : Nat} (hr : 0 < r) (hk : xk o r = (3, 2)) (hz : xz o = r + 1) (hd : ∀ k, xf o r k = defaultValue (xft 2 k)) : Cv y_Row_init [.ref r] o (fun o' => Gw r (r + 2) 1 540 o o' ∧ Rn o' r 0) := by
  refine RW.ps 1 rfl ?_
  refine RW.obj (by decide) ?_
  refine RW.ps 2 rfl ?_
  refine RW.na (k := 540) hz (by omega) rfl (by decide) ?_
  have g := Gw.mk (m := 540) (kd := (1, 540)) (fs := fun _ => .long 0) hz
  have k1 := mk_k (m := 540) (kd := (1, 540)) (fs := fun _ => .long 0) hz
  have i1 := mk_i (m := 540) (kd := (1, 540)) (fs := fun _ => .long 0) hz
  generalize xmk o (1, 540) 540 (fun _ => .long 0) = o1 at *
  have hk1 := (g.k (b := r) (by omega)).trans hk
  refine RW.pf hk1 rfl rfl ?_
  refine RW.re rfl rfl ⟨rfl, ?_, ?_⟩
  · exact ⟨g.1, g.2.1, g.2.2.1, fun b hb => ⟨g.k (by omega), g.i (by omega), by funext j; rw [xpf_ne (fun e => absurd e (by omega))]; exact g.f (by omega) j⟩⟩
  · refine ⟨⟨hk1, xpf_same, k1⟩, Nat.pow_pos (by decide), ?_, ?_⟩
    · show xi o1 (r + 1) = _
      rw [i1]; funext j; exact (lm_0 j).symm
    · rw [xpf_ne (fun _ => by decide), g.f (by omega), hd, nl_zero.mpr rfl]; rfl

theorem c_wholeInit {o : xO} {w : Nat} (hr : 0 < w) (hk : xk o w = (3, 1)) (hz : xz o = w + 1) (hd : ∀ k, xf o w k = defaultValue (xft 1 k)) : Cv y_Whole_init [.ref w] o (fun o' => Gw w (w + 3) 2 542 o o' ∧ Wn o' w 0) := by
  refine RW.ps 1 rfl ?_
  refine RW.obj (by decide) ?_
  have g0 : Gw w (w + 1) 0 0 o o := Gw.refl hz
  have h1 := hd 1
  refine RW.ps 1 rfl ?_
  refine RW.mk (s := w + 1) g0.1 (by omega) (fun _ k1 k2 k3 => c_rowInit (by omega) k1 k2 k3) rfl rfl rfl rfl ?_
  intro o1 e1 z1
  have hk := (e1.k (by omega)).trans hk
  have h1 := (e1.f (b := w) (by omega) 1).trans h1
  have g1 := g0.trans e1 (by omega)
  refine RW.pf hk rfl rfl ?_
  have h1 := (xpf_ne (a := w) (j := 0) (v := .ref (w + 1)) (fun _ => by decide)).trans h1
  have f1 : xf (xpf o1 w 0 (.ref (w + 1))) w 0 = .ref (w + 1) := xpf_same
  have z1 := z1.sm (Sm.pf (p := w) (j := 0) (v := .ref (w + 1)) (by omega))
  have g1 := g1.pf (p := w) (j := 0) (v := .ref (w + 1)) (by omega)
  have hk : xk (xpf o1 w 0 (.ref (w + 1))) w = (3, 1) := hk
  generalize xpf o1 w 0 (.ref (w + 1)) = p1 at *
  exact RW.re rfl rfl ⟨rfl, g1, ⟨hk, f1, z1, h1.trans rfl⟩⟩
theorem c_dividerInit {o : xO} {d : Nat} (hr : 0 < d) (hk : xk o d = (3, 3)) (hz : xz o = d + 1) (hd : ∀ k, xf o d k = defaultValue (xft 3 k)) : Cv y_Divider_init [.ref d] o (fun o' => Gw d (d + 7) 6 1626 o o' ∧ ZD o' d) := by
  refine RW.ps 1 rfl ?_
  refine RW.obj (by decide) ?_
  have g0 : Gw d (d + 1) 0 0 o o := Gw.refl hz
  refine RW.ps 1 rfl ?_
  refine RW.mk (s := d + 1) g0.1 (by omega) (fun _ k1 k2 k3 => c_rowInit (by omega) k1 k2 k3) rfl rfl rfl rfl ?_
  intro o1 e1 z1
  have hk := (e1.k (by omega)).trans hk
  have g1 := g0.trans e1 (by omega)
  refine RW.pf hk rfl rfl ?_
  have f1 : xf (xpf o1 d 0 (.ref (d + 1))) d 0 = .ref (d + 1) := xpf_same
  have z1 := z1.sm (Sm.pf (p := d) (j := 0) (v := .ref (d + 1)) (by omega))
  have g1 := g1.pf (p := d) (j := 0) (v := .ref (d + 1)) (by omega)
  have hk : xk (xpf o1 d 0 (.ref (d + 1))) d = (3, 3) := hk
  generalize xpf o1 d 0 (.ref (d + 1)) = p1 at *
  refine RW.ps 1 rfl ?_
  refine RW.mk (s := d + 3) g1.1 (by omega) (fun _ k1 k2 k3 => c_rowInit (by omega) k1 k2 k3) rfl rfl rfl rfl ?_
  intro o2 e2 z2
  have hk := (e2.k (by omega)).trans hk
  have f1 := (e2.f (by omega) 0).trans f1
  have z1 := z1.sm (e2.sm (by omega))
  have g2 := g1.trans e2 (by omega)
  refine RW.pf hk rfl rfl ?_
  have f1 := (xpf_ne (a := d) (j := 1) (v := .ref (d + 3)) (fun _ => by decide)).trans f1
  have f2 : xf (xpf o2 d 1 (.ref (d + 3))) d 1 = .ref (d + 3) := xpf_same
  have z1 := z1.sm (Sm.pf (p := d) (j := 1) (v := .ref (d + 3)) (by omega))
  have z2 := z2.sm (Sm.pf (p := d) (j := 1) (v := .ref (d + 3)) (by omega))
  have g2 := g2.pf (p := d) (j := 1) (v := .ref (d + 3)) (by omega)
  have hk : xk (xpf o2 d 1 (.ref (d + 3))) d = (3, 3) := hk
  generalize xpf o2 d 1 (.ref (d + 3)) = p2 at *
  refine RW.ps 1 rfl ?_
  refine RW.mk (s := d + 5) g2.1 (by omega) (fun _ k1 k2 k3 => c_rowInit (by omega) k1 k2 k3) rfl rfl rfl rfl ?_
  intro o3 e3 z3
  have hk := (e3.k (by omega)).trans hk
  have f1 := (e3.f (by omega) 0).trans f1
  have f2 := (e3.f (by omega) 1).trans f2
  have z1 := z1.sm (e3.sm (by omega))
  have z2 := z2.sm (e3.sm (by omega))
  have g3 := g2.trans e3 (by omega)
  refine RW.pf hk rfl rfl ?_
  have f1 := (xpf_ne (a := d) (j := 2) (v := .ref (d + 5)) (fun _ => by decide)).trans f1
  have f2 := (xpf_ne (a := d) (j := 2) (v := .ref (d + 5)) (fun _ => by decide)).trans f2
  have f3 : xf (xpf o3 d 2 (.ref (d + 5))) d 2 = .ref (d + 5) := xpf_same
  have z1 := z1.sm (Sm.pf (p := d) (j := 2) (v := .ref (d + 5)) (by omega))
  have z2 := z2.sm (Sm.pf (p := d) (j := 2) (v := .ref (d + 5)) (by omega))
  have z3 := z3.sm (Sm.pf (p := d) (j := 2) (v := .ref (d + 5)) (by omega))
  have g3 := g3.pf (p := d) (j := 2) (v := .ref (d + 5)) (by omega)
  have hk : xk (xpf o3 d 2 (.ref (d + 5))) d = (3, 3) := hk
  generalize xpf o3 d 2 (.ref (d + 5)) = p3 at *
  exact RW.re rfl rfl ⟨rfl, g3, ⟨⟨hk, f1, f2, f3⟩, ⟨_, z1⟩, ⟨_, z2⟩, ⟨_, z3⟩⟩⟩
theorem c_powersInit {o : xO} {d : Nat} (hr : 0 < d) (hk : xk o d = (3, 4)) (hz : xz o = d + 1) (hd : ∀ k, xf o d k = defaultValue (xft 4 k)) : Cv y_Powers_init [.ref d] o (fun o' => Gw d (d + 14) 13 3255 o o' ∧ ZP o' d) := by
  refine RW.ps 1 rfl ?_
  refine RW.obj (by decide) ?_
  have g0 : Gw d (d + 1) 0 0 o o := Gw.refl hz
  refine RW.ps 1 rfl ?_
  refine RW.mk (s := d + 1) g0.1 (by omega) (fun _ k1 k2 k3 => c_rowInit (by omega) k1 k2 k3) rfl rfl rfl rfl ?_
  intro o1 e1 z1
  have hk := (e1.k (by omega)).trans hk
  have g1 := g0.trans e1 (by omega)
  refine RW.pf hk rfl rfl ?_
  have f1 : xf (xpf o1 d 0 (.ref (d + 1))) d 0 = .ref (d + 1) := xpf_same
  have z1 := z1.sm (Sm.pf (p := d) (j := 0) (v := .ref (d + 1)) (by omega))
  have g1 := g1.pf (p := d) (j := 0) (v := .ref (d + 1)) (by omega)
  have hk : xk (xpf o1 d 0 (.ref (d + 1))) d = (3, 4) := hk
  generalize xpf o1 d 0 (.ref (d + 1)) = p1 at *
  refine RW.ps 1 rfl ?_
  refine RW.mk (s := d + 3) g1.1 (by omega) (fun _ k1 k2 k3 => c_rowInit (by omega) k1 k2 k3) rfl rfl rfl rfl ?_
  intro o2 e2 z2
  have hk := (e2.k (by omega)).trans hk
  have f1 := (e2.f (by omega) 0).trans f1
  have z1 := z1.sm (e2.sm (by omega))
  have g2 := g1.trans e2 (by omega)
  refine RW.pf hk rfl rfl ?_
  have f1 := (xpf_ne (a := d) (j := 1) (v := .ref (d + 3)) (fun _ => by decide)).trans f1
  have f2 : xf (xpf o2 d 1 (.ref (d + 3))) d 1 = .ref (d + 3) := xpf_same
  have z1 := z1.sm (Sm.pf (p := d) (j := 1) (v := .ref (d + 3)) (by omega))
  have z2 := z2.sm (Sm.pf (p := d) (j := 1) (v := .ref (d + 3)) (by omega))
  have g2 := g2.pf (p := d) (j := 1) (v := .ref (d + 3)) (by omega)
  have hk : xk (xpf o2 d 1 (.ref (d + 3))) d = (3, 4) := hk
  generalize xpf o2 d 1 (.ref (d + 3)) = p2 at *
  refine RW.ps 1 rfl ?_
  refine RW.mk (s := d + 5) g2.1 (by omega) (fun _ k1 k2 k3 => c_rowInit (by omega) k1 k2 k3) rfl rfl rfl rfl ?_
  intro o3 e3 z3
  have hk := (e3.k (by omega)).trans hk
  have f1 := (e3.f (by omega) 0).trans f1
  have f2 := (e3.f (by omega) 1).trans f2
  have z1 := z1.sm (e3.sm (by omega))
  have z2 := z2.sm (e3.sm (by omega))
  have g3 := g2.trans e3 (by omega)
  refine RW.pf hk rfl rfl ?_
  have f1 := (xpf_ne (a := d) (j := 2) (v := .ref (d + 5)) (fun _ => by decide)).trans f1
  have f2 := (xpf_ne (a := d) (j := 2) (v := .ref (d + 5)) (fun _ => by decide)).trans f2
  have f3 : xf (xpf o3 d 2 (.ref (d + 5))) d 2 = .ref (d + 5) := xpf_same
  have z1 := z1.sm (Sm.pf (p := d) (j := 2) (v := .ref (d + 5)) (by omega))
  have z2 := z2.sm (Sm.pf (p := d) (j := 2) (v := .ref (d + 5)) (by omega))
  have z3 := z3.sm (Sm.pf (p := d) (j := 2) (v := .ref (d + 5)) (by omega))
  have g3 := g3.pf (p := d) (j := 2) (v := .ref (d + 5)) (by omega)
  have hk : xk (xpf o3 d 2 (.ref (d + 5))) d = (3, 4) := hk
  generalize xpf o3 d 2 (.ref (d + 5)) = p3 at *
  refine RW.ps 1 rfl ?_
  refine RW.mk (s := d + 7) g3.1 (by omega) (fun _ k1 k2 k3 => c_dividerInit (by omega) k1 k2 k3) rfl rfl rfl rfl ?_
  intro o4 e4 z4
  have hk := (e4.k (by omega)).trans hk
  have f1 := (e4.f (by omega) 0).trans f1
  have f2 := (e4.f (by omega) 1).trans f2
  have f3 := (e4.f (by omega) 2).trans f3
  have z1 := z1.sm (e4.sm (by omega))
  have z2 := z2.sm (e4.sm (by omega))
  have z3 := z3.sm (e4.sm (by omega))
  have g4 := g3.trans e4 (by omega)
  refine RW.pf hk rfl rfl ?_
  have f1 := (xpf_ne (a := d) (j := 3) (v := .ref (d + 7)) (fun _ => by decide)).trans f1
  have f2 := (xpf_ne (a := d) (j := 3) (v := .ref (d + 7)) (fun _ => by decide)).trans f2
  have f3 := (xpf_ne (a := d) (j := 3) (v := .ref (d + 7)) (fun _ => by decide)).trans f3
  have f4 : xf (xpf o4 d 3 (.ref (d + 7))) d 3 = .ref (d + 7) := xpf_same
  have z1 := z1.sm (Sm.pf (p := d) (j := 3) (v := .ref (d + 7)) (by omega))
  have z2 := z2.sm (Sm.pf (p := d) (j := 3) (v := .ref (d + 7)) (by omega))
  have z3 := z3.sm (Sm.pf (p := d) (j := 3) (v := .ref (d + 7)) (by omega))
  have z4 := z4.sm (Sm.pf (p := d) (j := 3) (v := .ref (d + 7)) (by omega))
  have g4 := g4.pf (p := d) (j := 3) (v := .ref (d + 7)) (by omega)
  have hk : xk (xpf o4 d 3 (.ref (d + 7))) d = (3, 4) := hk
  generalize xpf o4 d 3 (.ref (d + 7)) = p4 at *
  exact RW.re rfl rfl ⟨rfl, g4, ⟨⟨hk, f1, f2, f3, f4, z4.1⟩, ⟨_, z1⟩, ⟨_, z2⟩, ⟨_, z3⟩, z4.2⟩⟩
theorem c_rootsInit {o : xO} {d : Nat} (hr : 0 < d) (hk : xk o d = (3, 5)) (hz : xz o = d + 1) (hd : ∀ k, xf o d k = defaultValue (xft 5 k)) : Cv y_Roots_init [.ref d] o (fun o' => Gw d (d + 12) 11 2713 o o' ∧ ZR o' d) := by
  refine RW.ps 1 rfl ?_
  refine RW.obj (by decide) ?_
  have g0 : Gw d (d + 1) 0 0 o o := Gw.refl hz
  refine RW.ps 1 rfl ?_
  refine RW.mk (s := d + 1) g0.1 (by omega) (fun _ k1 k2 k3 => c_rowInit (by omega) k1 k2 k3) rfl rfl rfl rfl ?_
  intro o1 e1 z1
  have hk := (e1.k (by omega)).trans hk
  have g1 := g0.trans e1 (by omega)
  refine RW.pf hk rfl rfl ?_
  have f1 : xf (xpf o1 d 0 (.ref (d + 1))) d 0 = .ref (d + 1) := xpf_same
  have z1 := z1.sm (Sm.pf (p := d) (j := 0) (v := .ref (d + 1)) (by omega))
  have g1 := g1.pf (p := d) (j := 0) (v := .ref (d + 1)) (by omega)
  have hk : xk (xpf o1 d 0 (.ref (d + 1))) d = (3, 5) := hk
  generalize xpf o1 d 0 (.ref (d + 1)) = p1 at *
  refine RW.ps 1 rfl ?_
  refine RW.mk (s := d + 3) g1.1 (by omega) (fun _ k1 k2 k3 => c_rowInit (by omega) k1 k2 k3) rfl rfl rfl rfl ?_
  intro o2 e2 z2
  have hk := (e2.k (by omega)).trans hk
  have f1 := (e2.f (by omega) 0).trans f1
  have z1 := z1.sm (e2.sm (by omega))
  have g2 := g1.trans e2 (by omega)
  refine RW.pf hk rfl rfl ?_
  have f1 := (xpf_ne (a := d) (j := 1) (v := .ref (d + 3)) (fun _ => by decide)).trans f1
  have f2 : xf (xpf o2 d 1 (.ref (d + 3))) d 1 = .ref (d + 3) := xpf_same
  have z1 := z1.sm (Sm.pf (p := d) (j := 1) (v := .ref (d + 3)) (by omega))
  have z2 := z2.sm (Sm.pf (p := d) (j := 1) (v := .ref (d + 3)) (by omega))
  have g2 := g2.pf (p := d) (j := 1) (v := .ref (d + 3)) (by omega)
  have hk : xk (xpf o2 d 1 (.ref (d + 3))) d = (3, 5) := hk
  generalize xpf o2 d 1 (.ref (d + 3)) = p2 at *
  refine RW.ps 1 rfl ?_
  refine RW.mk (s := d + 5) g2.1 (by omega) (fun _ k1 k2 k3 => c_dividerInit (by omega) k1 k2 k3) rfl rfl rfl rfl ?_
  intro o3 e3 z3
  have hk := (e3.k (by omega)).trans hk
  have f1 := (e3.f (by omega) 0).trans f1
  have f2 := (e3.f (by omega) 1).trans f2
  have z1 := z1.sm (e3.sm (by omega))
  have z2 := z2.sm (e3.sm (by omega))
  have g3 := g2.trans e3 (by omega)
  refine RW.pf hk rfl rfl ?_
  have f1 := (xpf_ne (a := d) (j := 2) (v := .ref (d + 5)) (fun _ => by decide)).trans f1
  have f2 := (xpf_ne (a := d) (j := 2) (v := .ref (d + 5)) (fun _ => by decide)).trans f2
  have f3 : xf (xpf o3 d 2 (.ref (d + 5))) d 2 = .ref (d + 5) := xpf_same
  have z1 := z1.sm (Sm.pf (p := d) (j := 2) (v := .ref (d + 5)) (by omega))
  have z2 := z2.sm (Sm.pf (p := d) (j := 2) (v := .ref (d + 5)) (by omega))
  have z3 := z3.sm (Sm.pf (p := d) (j := 2) (v := .ref (d + 5)) (by omega))
  have g3 := g3.pf (p := d) (j := 2) (v := .ref (d + 5)) (by omega)
  have hk : xk (xpf o3 d 2 (.ref (d + 5))) d = (3, 5) := hk
  generalize xpf o3 d 2 (.ref (d + 5)) = p3 at *
  exact RW.re rfl rfl ⟨rfl, g3, ⟨⟨hk, f1, f2, f3, z3.1⟩, ⟨_, z1⟩, ⟨_, z2⟩, z3.2⟩⟩
theorem c_divisorsInit {o : xO} {d : Nat} (hr : 0 < d) (hk : xk o d = (3, 6)) (hz : xz o = d + 1) (hd : ∀ k, xf o d k = defaultValue (xft 6 k)) : Cv y_Divisors_init [.ref d] o (fun o' => Gw d (d + 12) 11 2713 o o' ∧ ZG o' d) := by
  refine RW.ps 1 rfl ?_
  refine RW.obj (by decide) ?_
  have g0 : Gw d (d + 1) 0 0 o o := Gw.refl hz
  refine RW.ps 1 rfl ?_
  refine RW.mk (s := d + 1) g0.1 (by omega) (fun _ k1 k2 k3 => c_rowInit (by omega) k1 k2 k3) rfl rfl rfl rfl ?_
  intro o1 e1 z1
  have hk := (e1.k (by omega)).trans hk
  have g1 := g0.trans e1 (by omega)
  refine RW.pf hk rfl rfl ?_
  have f1 : xf (xpf o1 d 0 (.ref (d + 1))) d 0 = .ref (d + 1) := xpf_same
  have z1 := z1.sm (Sm.pf (p := d) (j := 0) (v := .ref (d + 1)) (by omega))
  have g1 := g1.pf (p := d) (j := 0) (v := .ref (d + 1)) (by omega)
  have hk : xk (xpf o1 d 0 (.ref (d + 1))) d = (3, 6) := hk
  generalize xpf o1 d 0 (.ref (d + 1)) = p1 at *
  refine RW.ps 1 rfl ?_
  refine RW.mk (s := d + 3) g1.1 (by omega) (fun _ k1 k2 k3 => c_rowInit (by omega) k1 k2 k3) rfl rfl rfl rfl ?_
  intro o2 e2 z2
  have hk := (e2.k (by omega)).trans hk
  have f1 := (e2.f (by omega) 0).trans f1
  have z1 := z1.sm (e2.sm (by omega))
  have g2 := g1.trans e2 (by omega)
  refine RW.pf hk rfl rfl ?_
  have f1 := (xpf_ne (a := d) (j := 1) (v := .ref (d + 3)) (fun _ => by decide)).trans f1
  have f2 : xf (xpf o2 d 1 (.ref (d + 3))) d 1 = .ref (d + 3) := xpf_same
  have z1 := z1.sm (Sm.pf (p := d) (j := 1) (v := .ref (d + 3)) (by omega))
  have z2 := z2.sm (Sm.pf (p := d) (j := 1) (v := .ref (d + 3)) (by omega))
  have g2 := g2.pf (p := d) (j := 1) (v := .ref (d + 3)) (by omega)
  have hk : xk (xpf o2 d 1 (.ref (d + 3))) d = (3, 6) := hk
  generalize xpf o2 d 1 (.ref (d + 3)) = p2 at *
  refine RW.ps 1 rfl ?_
  refine RW.mk (s := d + 5) g2.1 (by omega) (fun _ k1 k2 k3 => c_dividerInit (by omega) k1 k2 k3) rfl rfl rfl rfl ?_
  intro o3 e3 z3
  have hk := (e3.k (by omega)).trans hk
  have f1 := (e3.f (by omega) 0).trans f1
  have f2 := (e3.f (by omega) 1).trans f2
  have z1 := z1.sm (e3.sm (by omega))
  have z2 := z2.sm (e3.sm (by omega))
  have g3 := g2.trans e3 (by omega)
  refine RW.pf hk rfl rfl ?_
  have f1 := (xpf_ne (a := d) (j := 2) (v := .ref (d + 5)) (fun _ => by decide)).trans f1
  have f2 := (xpf_ne (a := d) (j := 2) (v := .ref (d + 5)) (fun _ => by decide)).trans f2
  have f3 : xf (xpf o3 d 2 (.ref (d + 5))) d 2 = .ref (d + 5) := xpf_same
  have z1 := z1.sm (Sm.pf (p := d) (j := 2) (v := .ref (d + 5)) (by omega))
  have z2 := z2.sm (Sm.pf (p := d) (j := 2) (v := .ref (d + 5)) (by omega))
  have z3 := z3.sm (Sm.pf (p := d) (j := 2) (v := .ref (d + 5)) (by omega))
  have g3 := g3.pf (p := d) (j := 2) (v := .ref (d + 5)) (by omega)
  have hk : xk (xpf o3 d 2 (.ref (d + 5))) d = (3, 6) := hk
  generalize xpf o3 d 2 (.ref (d + 5)) = p3 at *
  exact RW.re rfl rfl ⟨rfl, g3, ⟨⟨hk, f1, f2, f3, z3.1⟩, ⟨_, z1⟩, ⟨_, z2⟩, z3.2⟩⟩
theorem c_textInit {o : xO} {d : Nat} (hr : 0 < d) (hk : xk o d = (3, 7)) (hz : xz o = d + 1) (hd : ∀ k, xf o d k = defaultValue (xft 7 k)) : Cv y_Text_init [.ref d] o (fun o' => Gw d (d + 2) 1 3000 o o' ∧ Tx o' d []) := by
  refine RW.ps 1 rfl ?_
  refine RW.obj (by decide) ?_
  have g0 : Gw d (d + 1) 0 0 o o := Gw.refl hz
  have h1 := hd 1
  refine RW.ps 2 rfl ?_
  refine RW.na (s := d + 1) (k := 3000) g0.1 (by omega) rfl (by decide) ?_
  have e1 := Gw.mk (m := 3000) (kd := (1, 3000)) (fs := fun _ => .long 0) (s := d + 1) g0.1
  have z1 := mk_k (m := 3000) (kd := (1, 3000)) (fs := fun _ => .long 0) (s := d + 1) g0.1
  generalize xmk o (1, 3000) 3000 (fun _ => .long 0) = o1 at e1 z1 ⊢
  have hk := (e1.k (by omega)).trans hk
  have h1 := (e1.f (b := d) (by omega) 1).trans h1
  have g1 := g0.trans e1 (by omega)
  refine RW.pf hk rfl rfl ?_
  have h1 := (xpf_ne (a := d) (j := 0) (v := .ref (d + 1)) (fun _ => by decide)).trans h1
  have f1 : xf (xpf o1 d 0 (.ref (d + 1))) d 0 = .ref (d + 1) := xpf_same
  have z1 : xk (xpf o1 d 0 (.ref (d + 1))) _ = _ := z1
  have g1 := g1.pf (p := d) (j := 0) (v := .ref (d + 1)) (by omega)
  have hk : xk (xpf o1 d 0 (.ref (d + 1))) d = (3, 7) := hk
  generalize xpf o1 d 0 (.ref (d + 1)) = p1 at *
  exact RW.re rfl rfl ⟨rfl, g1, ⟨hk, f1, z1, Nat.zero_le _, h1.trans rfl, fun i hi => absurd hi (Nat.not_lt_zero i)⟩⟩
theorem c_pageInit {o : xO} {d : Nat} (hr : 0 < d) (hk : xk o d = (3, 8)) (hz : xz o = d + 1) (hd : ∀ k, xf o d k = defaultValue (xft 8 k)) : Cv y_Page_init [.ref d] o (fun o' => Gw d (d + 4) 3 8735 o o' ∧ ZA o' d []) := by
  refine RW.ps 1 rfl ?_
  refine RW.obj (by decide) ?_
  have g0 : Gw d (d + 1) 0 0 o o := Gw.refl hz
  have h1 := hd 2
  refine RW.ps 2 rfl ?_
  refine RW.na (s := d + 1) (k := 8193) g0.1 (by omega) rfl (by decide) ?_
  have e1 := Gw.mk (m := 8193) (kd := (1, 8193)) (fs := fun _ => .long 0) (s := d + 1) g0.1
  have z1 := mk_k (m := 8193) (kd := (1, 8193)) (fs := fun _ => .long 0) (s := d + 1) g0.1
  generalize xmk o (1, 8193) 8193 (fun _ => .long 0) = o1 at e1 z1 ⊢
  have hk := (e1.k (by omega)).trans hk
  have h1 := (e1.f (b := d) (by omega) 2).trans h1
  have g1 := g0.trans e1 (by omega)
  refine RW.pf hk rfl rfl ?_
  have h1 := (xpf_ne (a := d) (j := 0) (v := .ref (d + 1)) (fun _ => by decide)).trans h1
  have f1 : xf (xpf o1 d 0 (.ref (d + 1))) d 0 = .ref (d + 1) := xpf_same
  have z1 : xk (xpf o1 d 0 (.ref (d + 1))) _ = _ := z1
  have g1 := g1.pf (p := d) (j := 0) (v := .ref (d + 1)) (by omega)
  have hk : xk (xpf o1 d 0 (.ref (d + 1))) d = (3, 8) := hk
  generalize xpf o1 d 0 (.ref (d + 1)) = p1 at *
  refine RW.ps 1 rfl ?_
  refine RW.mk (s := d + 2) g1.1 (by omega) (fun _ k1 k2 k3 => c_rowInit (by omega) k1 k2 k3) rfl rfl rfl rfl ?_
  intro o2 e2 z2
  have hk := (e2.k (by omega)).trans hk
  have f1 := (e2.f (by omega) 0).trans f1
  have h1 := (e2.f (b := d) (by omega) 2).trans h1
  have z1 := (e2.k (by omega)).trans z1
  have g2 := g1.trans e2 (by omega)
  refine RW.pf hk rfl rfl ?_
  have f1 := (xpf_ne (a := d) (j := 1) (v := .ref (d + 2)) (fun _ => by decide)).trans f1
  have h1 := (xpf_ne (a := d) (j := 1) (v := .ref (d + 2)) (fun _ => by decide)).trans h1
  have f2 : xf (xpf o2 d 1 (.ref (d + 2))) d 1 = .ref (d + 2) := xpf_same
  have z1 : xk (xpf o2 d 1 (.ref (d + 2))) _ = _ := z1
  have z2 := z2.sm (Sm.pf (p := d) (j := 1) (v := .ref (d + 2)) (by omega))
  have g2 := g2.pf (p := d) (j := 1) (v := .ref (d + 2)) (by omega)
  have hk : xk (xpf o2 d 1 (.ref (d + 2))) d = (3, 8) := hk
  generalize xpf o2 d 1 (.ref (d + 2)) = p2 at *
  exact RW.re rfl rfl ⟨rfl, g2, ⟨⟨hk, f1, f2, z1, Nat.zero_le _, h1.trans rfl, fun i hi => absurd hi (Nat.not_lt_zero i)⟩, ⟨_, z2⟩⟩⟩
