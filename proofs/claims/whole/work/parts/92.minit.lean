/-! THE REFERENCE: its constructor. -/
theorem c_minit {o : xO} {Y : Nat} (hr : 0 < Y) (hk : xk o Y = (3, 9)) (hz : xz o = Y + 1) (hd : ∀ k, xf o Y k = defaultValue (xft 9 k)) : Cv y_M_init [.ref Y] o (fun o' => Gw Y (Y + 14) 13 31424 o o' ∧ MI o' Y (fun _ => 0) [] [] 0) := by
  refine RW.ps 1 rfl ?_
  refine RW.obj (by decide) ?_
  have g0 : Gw Y (Y + 1) 0 0 o o := Gw.refl hz
  have h0 : xf o Y 0 = .int 0 := (hd 0).trans rfl
  have h12 : xf o Y 12 = .int 0 := (hd 12).trans rfl
  have h14 : xf o Y 14 = .int 0 := (hd 14).trans rfl
  have h16 : xf o Y 16 = .int 0 := (hd 16).trans rfl
  refine RW.ps 2 rfl ?_
  refine RW.na (s := Y + 1) (k := 8208) g0.1 (by omega) rfl (by decide) ?_
  have e1 := Gw.mk (m := 8208) (kd := (1, 8208)) (fs := fun _ => .long 0) (s := Y + 1) g0.1
  have z1 := mk_k (m := 8208) (kd := (1, 8208)) (fs := fun _ => .long 0) (s := Y + 1) g0.1
  have i1 := mk_i (m := 8208) (kd := (1, 8208)) (fs := fun _ => .long 0) (s := Y + 1) g0.1
  generalize xmk o (1, 8208) 8208 (fun _ => .long 0) = o1 at e1 z1 i1 ⊢
  have hk := (e1.k (by omega)).trans hk
  have h0 := (e1.f (b := Y) (by omega) 0).trans h0
  have h12 := (e1.f (b := Y) (by omega) 12).trans h12
  have h14 := (e1.f (b := Y) (by omega) 14).trans h14
  have h16 := (e1.f (b := Y) (by omega) 16).trans h16
  have g1 := g0.trans e1 (by omega)
  refine RW.pf hk rfl rfl ?_
  have h0 := (xpf_ne (a := Y) (j := 1) (v := .ref (Y + 1)) (fun _ => by decide)).trans h0
  have h12 := (xpf_ne (a := Y) (j := 1) (v := .ref (Y + 1)) (fun _ => by decide)).trans h12
  have h14 := (xpf_ne (a := Y) (j := 1) (v := .ref (Y + 1)) (fun _ => by decide)).trans h14
  have h16 := (xpf_ne (a := Y) (j := 1) (v := .ref (Y + 1)) (fun _ => by decide)).trans h16
  have f1 : xf (xpf o1 Y 1 (.ref (Y + 1))) Y 1 = .ref (Y + 1) := xpf_same
  have z1 : xk (xpf o1 Y 1 (.ref (Y + 1))) _ = _ := z1
  have i1 : xi (xpf o1 Y 1 (.ref (Y + 1))) _ = _ := i1
  have g1 := g1.pf (p := Y) (j := 1) (v := .ref (Y + 1)) (by omega)
  have hk : xk (xpf o1 Y 1 (.ref (Y + 1))) Y = (3, 9) := hk
  generalize xpf o1 Y 1 (.ref (Y + 1)) = p1 at *
  refine RW.ps 2 rfl ?_
  refine RW.na (s := Y + 2) (k := 16) g1.1 (by omega) rfl (by decide) ?_
  have e2 := Gw.mk (m := 16) (kd := (1, 16)) (fs := fun _ => .long 0) (s := Y + 2) g1.1
  have z2 := mk_k (m := 16) (kd := (1, 16)) (fs := fun _ => .long 0) (s := Y + 2) g1.1
  have i2 := mk_i (m := 16) (kd := (1, 16)) (fs := fun _ => .long 0) (s := Y + 2) g1.1
  generalize xmk p1 (1, 16) 16 (fun _ => .long 0) = o2 at e2 z2 i2 ⊢
  have hk := (e2.k (by omega)).trans hk
  have f1 := (e2.f (b := Y) (by omega) 1).trans f1
  have h0 := (e2.f (b := Y) (by omega) 0).trans h0
  have h12 := (e2.f (b := Y) (by omega) 12).trans h12
  have h14 := (e2.f (b := Y) (by omega) 14).trans h14
  have h16 := (e2.f (b := Y) (by omega) 16).trans h16
  have z1 := (e2.k (by omega)).trans z1
  have i1 := (e2.i (by omega)).trans i1
  have g2 := g1.trans e2 (by omega)
  refine RW.pf hk rfl rfl ?_
  have f1 := (xpf_ne (a := Y) (j := 2) (v := .ref (Y + 2)) (fun _ => by decide)).trans f1
  have h0 := (xpf_ne (a := Y) (j := 2) (v := .ref (Y + 2)) (fun _ => by decide)).trans h0
  have h12 := (xpf_ne (a := Y) (j := 2) (v := .ref (Y + 2)) (fun _ => by decide)).trans h12
  have h14 := (xpf_ne (a := Y) (j := 2) (v := .ref (Y + 2)) (fun _ => by decide)).trans h14
  have h16 := (xpf_ne (a := Y) (j := 2) (v := .ref (Y + 2)) (fun _ => by decide)).trans h16
  have f2 : xf (xpf o2 Y 2 (.ref (Y + 2))) Y 2 = .ref (Y + 2) := xpf_same
  have z1 : xk (xpf o2 Y 2 (.ref (Y + 2))) _ = _ := z1
  have z2 : xk (xpf o2 Y 2 (.ref (Y + 2))) _ = _ := z2
  have i1 : xi (xpf o2 Y 2 (.ref (Y + 2))) _ = _ := i1
  have i2 : xi (xpf o2 Y 2 (.ref (Y + 2))) _ = _ := i2
  have g2 := g2.pf (p := Y) (j := 2) (v := .ref (Y + 2)) (by omega)
  have hk : xk (xpf o2 Y 2 (.ref (Y + 2))) Y = (3, 9) := hk
  generalize xpf o2 Y 2 (.ref (Y + 2)) = p2 at *
  refine RW.ps 2 rfl ?_
  refine RW.na (s := Y + 3) (k := 1200) g2.1 (by omega) rfl (by decide) ?_
  have e3 := Gw.mk (m := 1200) (kd := (1, 1200)) (fs := fun _ => .long 0) (s := Y + 3) g2.1
  have z3 := mk_k (m := 1200) (kd := (1, 1200)) (fs := fun _ => .long 0) (s := Y + 3) g2.1
  generalize xmk p2 (1, 1200) 1200 (fun _ => .long 0) = o3 at e3 z3 ⊢
  have hk := (e3.k (by omega)).trans hk
  have f1 := (e3.f (b := Y) (by omega) 1).trans f1
  have f2 := (e3.f (b := Y) (by omega) 2).trans f2
  have h0 := (e3.f (b := Y) (by omega) 0).trans h0
  have h12 := (e3.f (b := Y) (by omega) 12).trans h12
  have h14 := (e3.f (b := Y) (by omega) 14).trans h14
  have h16 := (e3.f (b := Y) (by omega) 16).trans h16
  have z1 := (e3.k (by omega)).trans z1
  have z2 := (e3.k (by omega)).trans z2
  have i1 := (e3.i (by omega)).trans i1
  have i2 := (e3.i (by omega)).trans i2
  have g3 := g2.trans e3 (by omega)
  refine RW.pf hk rfl rfl ?_
  have f1 := (xpf_ne (a := Y) (j := 3) (v := .ref (Y + 3)) (fun _ => by decide)).trans f1
  have f2 := (xpf_ne (a := Y) (j := 3) (v := .ref (Y + 3)) (fun _ => by decide)).trans f2
  have h0 := (xpf_ne (a := Y) (j := 3) (v := .ref (Y + 3)) (fun _ => by decide)).trans h0
  have h12 := (xpf_ne (a := Y) (j := 3) (v := .ref (Y + 3)) (fun _ => by decide)).trans h12
  have h14 := (xpf_ne (a := Y) (j := 3) (v := .ref (Y + 3)) (fun _ => by decide)).trans h14
  have h16 := (xpf_ne (a := Y) (j := 3) (v := .ref (Y + 3)) (fun _ => by decide)).trans h16
  have f3 : xf (xpf o3 Y 3 (.ref (Y + 3))) Y 3 = .ref (Y + 3) := xpf_same
  have z1 : xk (xpf o3 Y 3 (.ref (Y + 3))) _ = _ := z1
  have z2 : xk (xpf o3 Y 3 (.ref (Y + 3))) _ = _ := z2
  have z3 : xk (xpf o3 Y 3 (.ref (Y + 3))) _ = _ := z3
  have i1 : xi (xpf o3 Y 3 (.ref (Y + 3))) _ = _ := i1
  have i2 : xi (xpf o3 Y 3 (.ref (Y + 3))) _ = _ := i2
  have g3 := g3.pf (p := Y) (j := 3) (v := .ref (Y + 3)) (by omega)
  have hk : xk (xpf o3 Y 3 (.ref (Y + 3))) Y = (3, 9) := hk
  generalize xpf o3 Y 3 (.ref (Y + 3)) = p3 at *
  refine RW.ps 2 rfl ?_
  refine RW.na (s := Y + 4) (k := 1200) g3.1 (by omega) rfl (by decide) ?_
  have e4 := Gw.mk (m := 1200) (kd := (1, 1200)) (fs := fun _ => .long 0) (s := Y + 4) g3.1
  have z4 := mk_k (m := 1200) (kd := (1, 1200)) (fs := fun _ => .long 0) (s := Y + 4) g3.1
  generalize xmk p3 (1, 1200) 1200 (fun _ => .long 0) = o4 at e4 z4 ⊢
  have hk := (e4.k (by omega)).trans hk
  have f1 := (e4.f (b := Y) (by omega) 1).trans f1
  have f2 := (e4.f (b := Y) (by omega) 2).trans f2
  have f3 := (e4.f (b := Y) (by omega) 3).trans f3
  have h0 := (e4.f (b := Y) (by omega) 0).trans h0
  have h12 := (e4.f (b := Y) (by omega) 12).trans h12
  have h14 := (e4.f (b := Y) (by omega) 14).trans h14
  have h16 := (e4.f (b := Y) (by omega) 16).trans h16
  have z1 := (e4.k (by omega)).trans z1
  have z2 := (e4.k (by omega)).trans z2
  have z3 := (e4.k (by omega)).trans z3
  have i1 := (e4.i (by omega)).trans i1
  have i2 := (e4.i (by omega)).trans i2
  have g4 := g3.trans e4 (by omega)
  refine RW.pf hk rfl rfl ?_
  have f1 := (xpf_ne (a := Y) (j := 4) (v := .ref (Y + 4)) (fun _ => by decide)).trans f1
  have f2 := (xpf_ne (a := Y) (j := 4) (v := .ref (Y + 4)) (fun _ => by decide)).trans f2
  have f3 := (xpf_ne (a := Y) (j := 4) (v := .ref (Y + 4)) (fun _ => by decide)).trans f3
  have h0 := (xpf_ne (a := Y) (j := 4) (v := .ref (Y + 4)) (fun _ => by decide)).trans h0
  have h12 := (xpf_ne (a := Y) (j := 4) (v := .ref (Y + 4)) (fun _ => by decide)).trans h12
  have h14 := (xpf_ne (a := Y) (j := 4) (v := .ref (Y + 4)) (fun _ => by decide)).trans h14
  have h16 := (xpf_ne (a := Y) (j := 4) (v := .ref (Y + 4)) (fun _ => by decide)).trans h16
  have f4 : xf (xpf o4 Y 4 (.ref (Y + 4))) Y 4 = .ref (Y + 4) := xpf_same
  have z1 : xk (xpf o4 Y 4 (.ref (Y + 4))) _ = _ := z1
  have z2 : xk (xpf o4 Y 4 (.ref (Y + 4))) _ = _ := z2
  have z3 : xk (xpf o4 Y 4 (.ref (Y + 4))) _ = _ := z3
  have z4 : xk (xpf o4 Y 4 (.ref (Y + 4))) _ = _ := z4
  have i1 : xi (xpf o4 Y 4 (.ref (Y + 4))) _ = _ := i1
  have i2 : xi (xpf o4 Y 4 (.ref (Y + 4))) _ = _ := i2
  have g4 := g4.pf (p := Y) (j := 4) (v := .ref (Y + 4)) (by omega)
  have hk : xk (xpf o4 Y 4 (.ref (Y + 4))) Y = (3, 9) := hk
  generalize xpf o4 Y 4 (.ref (Y + 4)) = p4 at *
  refine RW.ps 2 rfl ?_
  refine RW.na (s := Y + 5) (k := 1200) g4.1 (by omega) rfl (by decide) ?_
  have e5 := Gw.mk (m := 1200) (kd := (1, 1200)) (fs := fun _ => .long 0) (s := Y + 5) g4.1
  have z5 := mk_k (m := 1200) (kd := (1, 1200)) (fs := fun _ => .long 0) (s := Y + 5) g4.1
  generalize xmk p4 (1, 1200) 1200 (fun _ => .long 0) = o5 at e5 z5 ⊢
  have hk := (e5.k (by omega)).trans hk
  have f1 := (e5.f (b := Y) (by omega) 1).trans f1
  have f2 := (e5.f (b := Y) (by omega) 2).trans f2
  have f3 := (e5.f (b := Y) (by omega) 3).trans f3
  have f4 := (e5.f (b := Y) (by omega) 4).trans f4
  have h0 := (e5.f (b := Y) (by omega) 0).trans h0
  have h12 := (e5.f (b := Y) (by omega) 12).trans h12
  have h14 := (e5.f (b := Y) (by omega) 14).trans h14
  have h16 := (e5.f (b := Y) (by omega) 16).trans h16
  have z1 := (e5.k (by omega)).trans z1
  have z2 := (e5.k (by omega)).trans z2
  have z3 := (e5.k (by omega)).trans z3
  have z4 := (e5.k (by omega)).trans z4
  have i1 := (e5.i (by omega)).trans i1
  have i2 := (e5.i (by omega)).trans i2
  have g5 := g4.trans e5 (by omega)
  refine RW.pf hk rfl rfl ?_
  have f1 := (xpf_ne (a := Y) (j := 5) (v := .ref (Y + 5)) (fun _ => by decide)).trans f1
  have f2 := (xpf_ne (a := Y) (j := 5) (v := .ref (Y + 5)) (fun _ => by decide)).trans f2
  have f3 := (xpf_ne (a := Y) (j := 5) (v := .ref (Y + 5)) (fun _ => by decide)).trans f3
  have f4 := (xpf_ne (a := Y) (j := 5) (v := .ref (Y + 5)) (fun _ => by decide)).trans f4
  have h0 := (xpf_ne (a := Y) (j := 5) (v := .ref (Y + 5)) (fun _ => by decide)).trans h0
  have h12 := (xpf_ne (a := Y) (j := 5) (v := .ref (Y + 5)) (fun _ => by decide)).trans h12
  have h14 := (xpf_ne (a := Y) (j := 5) (v := .ref (Y + 5)) (fun _ => by decide)).trans h14
  have h16 := (xpf_ne (a := Y) (j := 5) (v := .ref (Y + 5)) (fun _ => by decide)).trans h16
  have f5 : xf (xpf o5 Y 5 (.ref (Y + 5))) Y 5 = .ref (Y + 5) := xpf_same
  have z1 : xk (xpf o5 Y 5 (.ref (Y + 5))) _ = _ := z1
  have z2 : xk (xpf o5 Y 5 (.ref (Y + 5))) _ = _ := z2
  have z3 : xk (xpf o5 Y 5 (.ref (Y + 5))) _ = _ := z3
  have z4 : xk (xpf o5 Y 5 (.ref (Y + 5))) _ = _ := z4
  have z5 : xk (xpf o5 Y 5 (.ref (Y + 5))) _ = _ := z5
  have i1 : xi (xpf o5 Y 5 (.ref (Y + 5))) _ = _ := i1
  have i2 : xi (xpf o5 Y 5 (.ref (Y + 5))) _ = _ := i2
  have g5 := g5.pf (p := Y) (j := 5) (v := .ref (Y + 5)) (by omega)
  have hk : xk (xpf o5 Y 5 (.ref (Y + 5))) Y = (3, 9) := hk
  generalize xpf o5 Y 5 (.ref (Y + 5)) = p5 at *
  refine RW.ps 2 rfl ?_
  refine RW.na (s := Y + 6) (k := 1200) g5.1 (by omega) rfl (by decide) ?_
  have e6 := Gw.mk (m := 1200) (kd := (1, 1200)) (fs := fun _ => .long 0) (s := Y + 6) g5.1
  have z6 := mk_k (m := 1200) (kd := (1, 1200)) (fs := fun _ => .long 0) (s := Y + 6) g5.1
  generalize xmk p5 (1, 1200) 1200 (fun _ => .long 0) = o6 at e6 z6 ⊢
  have hk := (e6.k (by omega)).trans hk
  have f1 := (e6.f (b := Y) (by omega) 1).trans f1
  have f2 := (e6.f (b := Y) (by omega) 2).trans f2
  have f3 := (e6.f (b := Y) (by omega) 3).trans f3
  have f4 := (e6.f (b := Y) (by omega) 4).trans f4
  have f5 := (e6.f (b := Y) (by omega) 5).trans f5
  have h0 := (e6.f (b := Y) (by omega) 0).trans h0
  have h12 := (e6.f (b := Y) (by omega) 12).trans h12
  have h14 := (e6.f (b := Y) (by omega) 14).trans h14
  have h16 := (e6.f (b := Y) (by omega) 16).trans h16
  have z1 := (e6.k (by omega)).trans z1
  have z2 := (e6.k (by omega)).trans z2
  have z3 := (e6.k (by omega)).trans z3
  have z4 := (e6.k (by omega)).trans z4
  have z5 := (e6.k (by omega)).trans z5
  have i1 := (e6.i (by omega)).trans i1
  have i2 := (e6.i (by omega)).trans i2
  have g6 := g5.trans e6 (by omega)
  refine RW.pf hk rfl rfl ?_
  have f1 := (xpf_ne (a := Y) (j := 6) (v := .ref (Y + 6)) (fun _ => by decide)).trans f1
  have f2 := (xpf_ne (a := Y) (j := 6) (v := .ref (Y + 6)) (fun _ => by decide)).trans f2
  have f3 := (xpf_ne (a := Y) (j := 6) (v := .ref (Y + 6)) (fun _ => by decide)).trans f3
  have f4 := (xpf_ne (a := Y) (j := 6) (v := .ref (Y + 6)) (fun _ => by decide)).trans f4
  have f5 := (xpf_ne (a := Y) (j := 6) (v := .ref (Y + 6)) (fun _ => by decide)).trans f5
  have h0 := (xpf_ne (a := Y) (j := 6) (v := .ref (Y + 6)) (fun _ => by decide)).trans h0
  have h12 := (xpf_ne (a := Y) (j := 6) (v := .ref (Y + 6)) (fun _ => by decide)).trans h12
  have h14 := (xpf_ne (a := Y) (j := 6) (v := .ref (Y + 6)) (fun _ => by decide)).trans h14
  have h16 := (xpf_ne (a := Y) (j := 6) (v := .ref (Y + 6)) (fun _ => by decide)).trans h16
  have f6 : xf (xpf o6 Y 6 (.ref (Y + 6))) Y 6 = .ref (Y + 6) := xpf_same
  have z1 : xk (xpf o6 Y 6 (.ref (Y + 6))) _ = _ := z1
  have z2 : xk (xpf o6 Y 6 (.ref (Y + 6))) _ = _ := z2
  have z3 : xk (xpf o6 Y 6 (.ref (Y + 6))) _ = _ := z3
  have z4 : xk (xpf o6 Y 6 (.ref (Y + 6))) _ = _ := z4
  have z5 : xk (xpf o6 Y 6 (.ref (Y + 6))) _ = _ := z5
  have z6 : xk (xpf o6 Y 6 (.ref (Y + 6))) _ = _ := z6
  have i1 : xi (xpf o6 Y 6 (.ref (Y + 6))) _ = _ := i1
  have i2 : xi (xpf o6 Y 6 (.ref (Y + 6))) _ = _ := i2
  have g6 := g6.pf (p := Y) (j := 6) (v := .ref (Y + 6)) (by omega)
  have hk : xk (xpf o6 Y 6 (.ref (Y + 6))) Y = (3, 9) := hk
  generalize xpf o6 Y 6 (.ref (Y + 6)) = p6 at *
  refine RW.ps 2 rfl ?_
  refine RW.na (s := Y + 7) (k := 1200) g6.1 (by omega) rfl (by decide) ?_
  have e7 := Gw.mk (m := 1200) (kd := (1, 1200)) (fs := fun _ => .long 0) (s := Y + 7) g6.1
  have z7 := mk_k (m := 1200) (kd := (1, 1200)) (fs := fun _ => .long 0) (s := Y + 7) g6.1
  generalize xmk p6 (1, 1200) 1200 (fun _ => .long 0) = o7 at e7 z7 ⊢
  have hk := (e7.k (by omega)).trans hk
  have f1 := (e7.f (b := Y) (by omega) 1).trans f1
  have f2 := (e7.f (b := Y) (by omega) 2).trans f2
  have f3 := (e7.f (b := Y) (by omega) 3).trans f3
  have f4 := (e7.f (b := Y) (by omega) 4).trans f4
  have f5 := (e7.f (b := Y) (by omega) 5).trans f5
  have f6 := (e7.f (b := Y) (by omega) 6).trans f6
  have h0 := (e7.f (b := Y) (by omega) 0).trans h0
  have h12 := (e7.f (b := Y) (by omega) 12).trans h12
  have h14 := (e7.f (b := Y) (by omega) 14).trans h14
  have h16 := (e7.f (b := Y) (by omega) 16).trans h16
  have z1 := (e7.k (by omega)).trans z1
  have z2 := (e7.k (by omega)).trans z2
  have z3 := (e7.k (by omega)).trans z3
  have z4 := (e7.k (by omega)).trans z4
  have z5 := (e7.k (by omega)).trans z5
  have z6 := (e7.k (by omega)).trans z6
  have i1 := (e7.i (by omega)).trans i1
  have i2 := (e7.i (by omega)).trans i2
  have g7 := g6.trans e7 (by omega)
  refine RW.pf hk rfl rfl ?_
  have f1 := (xpf_ne (a := Y) (j := 7) (v := .ref (Y + 7)) (fun _ => by decide)).trans f1
  have f2 := (xpf_ne (a := Y) (j := 7) (v := .ref (Y + 7)) (fun _ => by decide)).trans f2
  have f3 := (xpf_ne (a := Y) (j := 7) (v := .ref (Y + 7)) (fun _ => by decide)).trans f3
  have f4 := (xpf_ne (a := Y) (j := 7) (v := .ref (Y + 7)) (fun _ => by decide)).trans f4
  have f5 := (xpf_ne (a := Y) (j := 7) (v := .ref (Y + 7)) (fun _ => by decide)).trans f5
  have f6 := (xpf_ne (a := Y) (j := 7) (v := .ref (Y + 7)) (fun _ => by decide)).trans f6
  have h0 := (xpf_ne (a := Y) (j := 7) (v := .ref (Y + 7)) (fun _ => by decide)).trans h0
  have h12 := (xpf_ne (a := Y) (j := 7) (v := .ref (Y + 7)) (fun _ => by decide)).trans h12
  have h14 := (xpf_ne (a := Y) (j := 7) (v := .ref (Y + 7)) (fun _ => by decide)).trans h14
  have h16 := (xpf_ne (a := Y) (j := 7) (v := .ref (Y + 7)) (fun _ => by decide)).trans h16
  have f7 : xf (xpf o7 Y 7 (.ref (Y + 7))) Y 7 = .ref (Y + 7) := xpf_same
  have z1 : xk (xpf o7 Y 7 (.ref (Y + 7))) _ = _ := z1
  have z2 : xk (xpf o7 Y 7 (.ref (Y + 7))) _ = _ := z2
  have z3 : xk (xpf o7 Y 7 (.ref (Y + 7))) _ = _ := z3
  have z4 : xk (xpf o7 Y 7 (.ref (Y + 7))) _ = _ := z4
  have z5 : xk (xpf o7 Y 7 (.ref (Y + 7))) _ = _ := z5
  have z6 : xk (xpf o7 Y 7 (.ref (Y + 7))) _ = _ := z6
  have z7 : xk (xpf o7 Y 7 (.ref (Y + 7))) _ = _ := z7
  have i1 : xi (xpf o7 Y 7 (.ref (Y + 7))) _ = _ := i1
  have i2 : xi (xpf o7 Y 7 (.ref (Y + 7))) _ = _ := i2
  have g7 := g7.pf (p := Y) (j := 7) (v := .ref (Y + 7)) (by omega)
  have hk : xk (xpf o7 Y 7 (.ref (Y + 7))) Y = (3, 9) := hk
  generalize xpf o7 Y 7 (.ref (Y + 7)) = p7 at *
  refine RW.ps 2 rfl ?_
  refine RW.na (s := Y + 8) (k := 2400) g7.1 (by omega) rfl (by decide) ?_
  have e8 := Gw.mk (m := 2400) (kd := (1, 2400)) (fs := fun _ => .long 0) (s := Y + 8) g7.1
  have z8 := mk_k (m := 2400) (kd := (1, 2400)) (fs := fun _ => .long 0) (s := Y + 8) g7.1
  generalize xmk p7 (1, 2400) 2400 (fun _ => .long 0) = o8 at e8 z8 ⊢
  have hk := (e8.k (by omega)).trans hk
  have f1 := (e8.f (b := Y) (by omega) 1).trans f1
  have f2 := (e8.f (b := Y) (by omega) 2).trans f2
  have f3 := (e8.f (b := Y) (by omega) 3).trans f3
  have f4 := (e8.f (b := Y) (by omega) 4).trans f4
  have f5 := (e8.f (b := Y) (by omega) 5).trans f5
  have f6 := (e8.f (b := Y) (by omega) 6).trans f6
  have f7 := (e8.f (b := Y) (by omega) 7).trans f7
  have h0 := (e8.f (b := Y) (by omega) 0).trans h0
  have h12 := (e8.f (b := Y) (by omega) 12).trans h12
  have h14 := (e8.f (b := Y) (by omega) 14).trans h14
  have h16 := (e8.f (b := Y) (by omega) 16).trans h16
  have z1 := (e8.k (by omega)).trans z1
  have z2 := (e8.k (by omega)).trans z2
  have z3 := (e8.k (by omega)).trans z3
  have z4 := (e8.k (by omega)).trans z4
  have z5 := (e8.k (by omega)).trans z5
  have z6 := (e8.k (by omega)).trans z6
  have z7 := (e8.k (by omega)).trans z7
  have i1 := (e8.i (by omega)).trans i1
  have i2 := (e8.i (by omega)).trans i2
  have g8 := g7.trans e8 (by omega)
  refine RW.pf hk rfl rfl ?_
  have f1 := (xpf_ne (a := Y) (j := 8) (v := .ref (Y + 8)) (fun _ => by decide)).trans f1
  have f2 := (xpf_ne (a := Y) (j := 8) (v := .ref (Y + 8)) (fun _ => by decide)).trans f2
  have f3 := (xpf_ne (a := Y) (j := 8) (v := .ref (Y + 8)) (fun _ => by decide)).trans f3
  have f4 := (xpf_ne (a := Y) (j := 8) (v := .ref (Y + 8)) (fun _ => by decide)).trans f4
  have f5 := (xpf_ne (a := Y) (j := 8) (v := .ref (Y + 8)) (fun _ => by decide)).trans f5
  have f6 := (xpf_ne (a := Y) (j := 8) (v := .ref (Y + 8)) (fun _ => by decide)).trans f6
  have f7 := (xpf_ne (a := Y) (j := 8) (v := .ref (Y + 8)) (fun _ => by decide)).trans f7
  have h0 := (xpf_ne (a := Y) (j := 8) (v := .ref (Y + 8)) (fun _ => by decide)).trans h0
  have h12 := (xpf_ne (a := Y) (j := 8) (v := .ref (Y + 8)) (fun _ => by decide)).trans h12
  have h14 := (xpf_ne (a := Y) (j := 8) (v := .ref (Y + 8)) (fun _ => by decide)).trans h14
  have h16 := (xpf_ne (a := Y) (j := 8) (v := .ref (Y + 8)) (fun _ => by decide)).trans h16
  have f8 : xf (xpf o8 Y 8 (.ref (Y + 8))) Y 8 = .ref (Y + 8) := xpf_same
  have z1 : xk (xpf o8 Y 8 (.ref (Y + 8))) _ = _ := z1
  have z2 : xk (xpf o8 Y 8 (.ref (Y + 8))) _ = _ := z2
  have z3 : xk (xpf o8 Y 8 (.ref (Y + 8))) _ = _ := z3
  have z4 : xk (xpf o8 Y 8 (.ref (Y + 8))) _ = _ := z4
  have z5 : xk (xpf o8 Y 8 (.ref (Y + 8))) _ = _ := z5
  have z6 : xk (xpf o8 Y 8 (.ref (Y + 8))) _ = _ := z6
  have z7 : xk (xpf o8 Y 8 (.ref (Y + 8))) _ = _ := z7
  have z8 : xk (xpf o8 Y 8 (.ref (Y + 8))) _ = _ := z8
  have i1 : xi (xpf o8 Y 8 (.ref (Y + 8))) _ = _ := i1
  have i2 : xi (xpf o8 Y 8 (.ref (Y + 8))) _ = _ := i2
  have g8 := g8.pf (p := Y) (j := 8) (v := .ref (Y + 8)) (by omega)
  have hk : xk (xpf o8 Y 8 (.ref (Y + 8))) Y = (3, 9) := hk
  generalize xpf o8 Y 8 (.ref (Y + 8)) = p8 at *
  refine RW.ps 2 rfl ?_
  refine RW.na (s := Y + 9) (k := 1200) g8.1 (by omega) rfl (by decide) ?_
  have e9 := Gw.mk (m := 1200) (kd := (1, 1200)) (fs := fun _ => .long 0) (s := Y + 9) g8.1
  have z9 := mk_k (m := 1200) (kd := (1, 1200)) (fs := fun _ => .long 0) (s := Y + 9) g8.1
  generalize xmk p8 (1, 1200) 1200 (fun _ => .long 0) = o9 at e9 z9 ⊢
  have hk := (e9.k (by omega)).trans hk
  have f1 := (e9.f (b := Y) (by omega) 1).trans f1
  have f2 := (e9.f (b := Y) (by omega) 2).trans f2
  have f3 := (e9.f (b := Y) (by omega) 3).trans f3
  have f4 := (e9.f (b := Y) (by omega) 4).trans f4
  have f5 := (e9.f (b := Y) (by omega) 5).trans f5
  have f6 := (e9.f (b := Y) (by omega) 6).trans f6
  have f7 := (e9.f (b := Y) (by omega) 7).trans f7
  have f8 := (e9.f (b := Y) (by omega) 8).trans f8
  have h0 := (e9.f (b := Y) (by omega) 0).trans h0
  have h12 := (e9.f (b := Y) (by omega) 12).trans h12
  have h14 := (e9.f (b := Y) (by omega) 14).trans h14
  have h16 := (e9.f (b := Y) (by omega) 16).trans h16
  have z1 := (e9.k (by omega)).trans z1
  have z2 := (e9.k (by omega)).trans z2
  have z3 := (e9.k (by omega)).trans z3
  have z4 := (e9.k (by omega)).trans z4
  have z5 := (e9.k (by omega)).trans z5
  have z6 := (e9.k (by omega)).trans z6
  have z7 := (e9.k (by omega)).trans z7
  have z8 := (e9.k (by omega)).trans z8
  have i1 := (e9.i (by omega)).trans i1
  have i2 := (e9.i (by omega)).trans i2
  have g9 := g8.trans e9 (by omega)
  refine RW.pf hk rfl rfl ?_
  have f1 := (xpf_ne (a := Y) (j := 9) (v := .ref (Y + 9)) (fun _ => by decide)).trans f1
  have f2 := (xpf_ne (a := Y) (j := 9) (v := .ref (Y + 9)) (fun _ => by decide)).trans f2
  have f3 := (xpf_ne (a := Y) (j := 9) (v := .ref (Y + 9)) (fun _ => by decide)).trans f3
  have f4 := (xpf_ne (a := Y) (j := 9) (v := .ref (Y + 9)) (fun _ => by decide)).trans f4
  have f5 := (xpf_ne (a := Y) (j := 9) (v := .ref (Y + 9)) (fun _ => by decide)).trans f5
  have f6 := (xpf_ne (a := Y) (j := 9) (v := .ref (Y + 9)) (fun _ => by decide)).trans f6
  have f7 := (xpf_ne (a := Y) (j := 9) (v := .ref (Y + 9)) (fun _ => by decide)).trans f7
  have f8 := (xpf_ne (a := Y) (j := 9) (v := .ref (Y + 9)) (fun _ => by decide)).trans f8
  have h0 := (xpf_ne (a := Y) (j := 9) (v := .ref (Y + 9)) (fun _ => by decide)).trans h0
  have h12 := (xpf_ne (a := Y) (j := 9) (v := .ref (Y + 9)) (fun _ => by decide)).trans h12
  have h14 := (xpf_ne (a := Y) (j := 9) (v := .ref (Y + 9)) (fun _ => by decide)).trans h14
  have h16 := (xpf_ne (a := Y) (j := 9) (v := .ref (Y + 9)) (fun _ => by decide)).trans h16
  have f9 : xf (xpf o9 Y 9 (.ref (Y + 9))) Y 9 = .ref (Y + 9) := xpf_same
  have z1 : xk (xpf o9 Y 9 (.ref (Y + 9))) _ = _ := z1
  have z2 : xk (xpf o9 Y 9 (.ref (Y + 9))) _ = _ := z2
  have z3 : xk (xpf o9 Y 9 (.ref (Y + 9))) _ = _ := z3
  have z4 : xk (xpf o9 Y 9 (.ref (Y + 9))) _ = _ := z4
  have z5 : xk (xpf o9 Y 9 (.ref (Y + 9))) _ = _ := z5
  have z6 : xk (xpf o9 Y 9 (.ref (Y + 9))) _ = _ := z6
  have z7 : xk (xpf o9 Y 9 (.ref (Y + 9))) _ = _ := z7
  have z8 : xk (xpf o9 Y 9 (.ref (Y + 9))) _ = _ := z8
  have z9 : xk (xpf o9 Y 9 (.ref (Y + 9))) _ = _ := z9
  have i1 : xi (xpf o9 Y 9 (.ref (Y + 9))) _ = _ := i1
  have i2 : xi (xpf o9 Y 9 (.ref (Y + 9))) _ = _ := i2
  have g9 := g9.pf (p := Y) (j := 9) (v := .ref (Y + 9)) (by omega)
  have hk : xk (xpf o9 Y 9 (.ref (Y + 9))) Y = (3, 9) := hk
  generalize xpf o9 Y 9 (.ref (Y + 9)) = p9 at *
  refine RW.ps 2 rfl ?_
  refine RW.na (s := Y + 10) (k := 1200) g9.1 (by omega) rfl (by decide) ?_
  have e10 := Gw.mk (m := 1200) (kd := (1, 1200)) (fs := fun _ => .long 0) (s := Y + 10) g9.1
  have z10 := mk_k (m := 1200) (kd := (1, 1200)) (fs := fun _ => .long 0) (s := Y + 10) g9.1
  generalize xmk p9 (1, 1200) 1200 (fun _ => .long 0) = o10 at e10 z10 ⊢
  have hk := (e10.k (by omega)).trans hk
  have f1 := (e10.f (b := Y) (by omega) 1).trans f1
  have f2 := (e10.f (b := Y) (by omega) 2).trans f2
  have f3 := (e10.f (b := Y) (by omega) 3).trans f3
  have f4 := (e10.f (b := Y) (by omega) 4).trans f4
  have f5 := (e10.f (b := Y) (by omega) 5).trans f5
  have f6 := (e10.f (b := Y) (by omega) 6).trans f6
  have f7 := (e10.f (b := Y) (by omega) 7).trans f7
  have f8 := (e10.f (b := Y) (by omega) 8).trans f8
  have f9 := (e10.f (b := Y) (by omega) 9).trans f9
  have h0 := (e10.f (b := Y) (by omega) 0).trans h0
  have h12 := (e10.f (b := Y) (by omega) 12).trans h12
  have h14 := (e10.f (b := Y) (by omega) 14).trans h14
  have h16 := (e10.f (b := Y) (by omega) 16).trans h16
  have z1 := (e10.k (by omega)).trans z1
  have z2 := (e10.k (by omega)).trans z2
  have z3 := (e10.k (by omega)).trans z3
  have z4 := (e10.k (by omega)).trans z4
  have z5 := (e10.k (by omega)).trans z5
  have z6 := (e10.k (by omega)).trans z6
  have z7 := (e10.k (by omega)).trans z7
  have z8 := (e10.k (by omega)).trans z8
  have z9 := (e10.k (by omega)).trans z9
  have i1 := (e10.i (by omega)).trans i1
  have i2 := (e10.i (by omega)).trans i2
  have g10 := g9.trans e10 (by omega)
  refine RW.pf hk rfl rfl ?_
  have f1 := (xpf_ne (a := Y) (j := 10) (v := .ref (Y + 10)) (fun _ => by decide)).trans f1
  have f2 := (xpf_ne (a := Y) (j := 10) (v := .ref (Y + 10)) (fun _ => by decide)).trans f2
  have f3 := (xpf_ne (a := Y) (j := 10) (v := .ref (Y + 10)) (fun _ => by decide)).trans f3
  have f4 := (xpf_ne (a := Y) (j := 10) (v := .ref (Y + 10)) (fun _ => by decide)).trans f4
  have f5 := (xpf_ne (a := Y) (j := 10) (v := .ref (Y + 10)) (fun _ => by decide)).trans f5
  have f6 := (xpf_ne (a := Y) (j := 10) (v := .ref (Y + 10)) (fun _ => by decide)).trans f6
  have f7 := (xpf_ne (a := Y) (j := 10) (v := .ref (Y + 10)) (fun _ => by decide)).trans f7
  have f8 := (xpf_ne (a := Y) (j := 10) (v := .ref (Y + 10)) (fun _ => by decide)).trans f8
  have f9 := (xpf_ne (a := Y) (j := 10) (v := .ref (Y + 10)) (fun _ => by decide)).trans f9
  have h0 := (xpf_ne (a := Y) (j := 10) (v := .ref (Y + 10)) (fun _ => by decide)).trans h0
  have h12 := (xpf_ne (a := Y) (j := 10) (v := .ref (Y + 10)) (fun _ => by decide)).trans h12
  have h14 := (xpf_ne (a := Y) (j := 10) (v := .ref (Y + 10)) (fun _ => by decide)).trans h14
  have h16 := (xpf_ne (a := Y) (j := 10) (v := .ref (Y + 10)) (fun _ => by decide)).trans h16
  have f10 : xf (xpf o10 Y 10 (.ref (Y + 10))) Y 10 = .ref (Y + 10) := xpf_same
  have z1 : xk (xpf o10 Y 10 (.ref (Y + 10))) _ = _ := z1
  have z2 : xk (xpf o10 Y 10 (.ref (Y + 10))) _ = _ := z2
  have z3 : xk (xpf o10 Y 10 (.ref (Y + 10))) _ = _ := z3
  have z4 : xk (xpf o10 Y 10 (.ref (Y + 10))) _ = _ := z4
  have z5 : xk (xpf o10 Y 10 (.ref (Y + 10))) _ = _ := z5
  have z6 : xk (xpf o10 Y 10 (.ref (Y + 10))) _ = _ := z6
  have z7 : xk (xpf o10 Y 10 (.ref (Y + 10))) _ = _ := z7
  have z8 : xk (xpf o10 Y 10 (.ref (Y + 10))) _ = _ := z8
  have z9 : xk (xpf o10 Y 10 (.ref (Y + 10))) _ = _ := z9
  have z10 : xk (xpf o10 Y 10 (.ref (Y + 10))) _ = _ := z10
  have i1 : xi (xpf o10 Y 10 (.ref (Y + 10))) _ = _ := i1
  have i2 : xi (xpf o10 Y 10 (.ref (Y + 10))) _ = _ := i2
  have g10 := g10.pf (p := Y) (j := 10) (v := .ref (Y + 10)) (by omega)
  have hk : xk (xpf o10 Y 10 (.ref (Y + 10))) Y = (3, 9) := hk
  generalize xpf o10 Y 10 (.ref (Y + 10)) = p10 at *
  refine RW.ps 2 rfl ?_
  refine RW.na (s := Y + 11) (k := 1200) g10.1 (by omega) rfl (by decide) ?_
  have e11 := Gw.mk (m := 1200) (kd := (1, 1200)) (fs := fun _ => .long 0) (s := Y + 11) g10.1
  have z11 := mk_k (m := 1200) (kd := (1, 1200)) (fs := fun _ => .long 0) (s := Y + 11) g10.1
  generalize xmk p10 (1, 1200) 1200 (fun _ => .long 0) = o11 at e11 z11 ⊢
  have hk := (e11.k (by omega)).trans hk
  have f1 := (e11.f (b := Y) (by omega) 1).trans f1
  have f2 := (e11.f (b := Y) (by omega) 2).trans f2
  have f3 := (e11.f (b := Y) (by omega) 3).trans f3
  have f4 := (e11.f (b := Y) (by omega) 4).trans f4
  have f5 := (e11.f (b := Y) (by omega) 5).trans f5
  have f6 := (e11.f (b := Y) (by omega) 6).trans f6
  have f7 := (e11.f (b := Y) (by omega) 7).trans f7
  have f8 := (e11.f (b := Y) (by omega) 8).trans f8
  have f9 := (e11.f (b := Y) (by omega) 9).trans f9
  have f10 := (e11.f (b := Y) (by omega) 10).trans f10
  have h0 := (e11.f (b := Y) (by omega) 0).trans h0
  have h12 := (e11.f (b := Y) (by omega) 12).trans h12
  have h14 := (e11.f (b := Y) (by omega) 14).trans h14
  have h16 := (e11.f (b := Y) (by omega) 16).trans h16
  have z1 := (e11.k (by omega)).trans z1
  have z2 := (e11.k (by omega)).trans z2
  have z3 := (e11.k (by omega)).trans z3
  have z4 := (e11.k (by omega)).trans z4
  have z5 := (e11.k (by omega)).trans z5
  have z6 := (e11.k (by omega)).trans z6
  have z7 := (e11.k (by omega)).trans z7
  have z8 := (e11.k (by omega)).trans z8
  have z9 := (e11.k (by omega)).trans z9
  have z10 := (e11.k (by omega)).trans z10
  have i1 := (e11.i (by omega)).trans i1
  have i2 := (e11.i (by omega)).trans i2
  have g11 := g10.trans e11 (by omega)
  refine RW.pf hk rfl rfl ?_
  have f1 := (xpf_ne (a := Y) (j := 11) (v := .ref (Y + 11)) (fun _ => by decide)).trans f1
  have f2 := (xpf_ne (a := Y) (j := 11) (v := .ref (Y + 11)) (fun _ => by decide)).trans f2
  have f3 := (xpf_ne (a := Y) (j := 11) (v := .ref (Y + 11)) (fun _ => by decide)).trans f3
  have f4 := (xpf_ne (a := Y) (j := 11) (v := .ref (Y + 11)) (fun _ => by decide)).trans f4
  have f5 := (xpf_ne (a := Y) (j := 11) (v := .ref (Y + 11)) (fun _ => by decide)).trans f5
  have f6 := (xpf_ne (a := Y) (j := 11) (v := .ref (Y + 11)) (fun _ => by decide)).trans f6
  have f7 := (xpf_ne (a := Y) (j := 11) (v := .ref (Y + 11)) (fun _ => by decide)).trans f7
  have f8 := (xpf_ne (a := Y) (j := 11) (v := .ref (Y + 11)) (fun _ => by decide)).trans f8
  have f9 := (xpf_ne (a := Y) (j := 11) (v := .ref (Y + 11)) (fun _ => by decide)).trans f9
  have f10 := (xpf_ne (a := Y) (j := 11) (v := .ref (Y + 11)) (fun _ => by decide)).trans f10
  have h0 := (xpf_ne (a := Y) (j := 11) (v := .ref (Y + 11)) (fun _ => by decide)).trans h0
  have h12 := (xpf_ne (a := Y) (j := 11) (v := .ref (Y + 11)) (fun _ => by decide)).trans h12
  have h14 := (xpf_ne (a := Y) (j := 11) (v := .ref (Y + 11)) (fun _ => by decide)).trans h14
  have h16 := (xpf_ne (a := Y) (j := 11) (v := .ref (Y + 11)) (fun _ => by decide)).trans h16
  have f11 : xf (xpf o11 Y 11 (.ref (Y + 11))) Y 11 = .ref (Y + 11) := xpf_same
  have z1 : xk (xpf o11 Y 11 (.ref (Y + 11))) _ = _ := z1
  have z2 : xk (xpf o11 Y 11 (.ref (Y + 11))) _ = _ := z2
  have z3 : xk (xpf o11 Y 11 (.ref (Y + 11))) _ = _ := z3
  have z4 : xk (xpf o11 Y 11 (.ref (Y + 11))) _ = _ := z4
  have z5 : xk (xpf o11 Y 11 (.ref (Y + 11))) _ = _ := z5
  have z6 : xk (xpf o11 Y 11 (.ref (Y + 11))) _ = _ := z6
  have z7 : xk (xpf o11 Y 11 (.ref (Y + 11))) _ = _ := z7
  have z8 : xk (xpf o11 Y 11 (.ref (Y + 11))) _ = _ := z8
  have z9 : xk (xpf o11 Y 11 (.ref (Y + 11))) _ = _ := z9
  have z10 : xk (xpf o11 Y 11 (.ref (Y + 11))) _ = _ := z10
  have z11 : xk (xpf o11 Y 11 (.ref (Y + 11))) _ = _ := z11
  have i1 : xi (xpf o11 Y 11 (.ref (Y + 11))) _ = _ := i1
  have i2 : xi (xpf o11 Y 11 (.ref (Y + 11))) _ = _ := i2
  have g11 := g11.pf (p := Y) (j := 11) (v := .ref (Y + 11)) (by omega)
  have hk : xk (xpf o11 Y 11 (.ref (Y + 11))) Y = (3, 9) := hk
  generalize xpf o11 Y 11 (.ref (Y + 11)) = p11 at *
  refine RW.ps 2 rfl ?_
  refine RW.na (s := Y + 12) (k := 3000) g11.1 (by omega) rfl (by decide) ?_
  have e12 := Gw.mk (m := 3000) (kd := (1, 3000)) (fs := fun _ => .long 0) (s := Y + 12) g11.1
  have z12 := mk_k (m := 3000) (kd := (1, 3000)) (fs := fun _ => .long 0) (s := Y + 12) g11.1
  generalize xmk p11 (1, 3000) 3000 (fun _ => .long 0) = o12 at e12 z12 ⊢
  have hk := (e12.k (by omega)).trans hk
  have f1 := (e12.f (b := Y) (by omega) 1).trans f1
  have f2 := (e12.f (b := Y) (by omega) 2).trans f2
  have f3 := (e12.f (b := Y) (by omega) 3).trans f3
  have f4 := (e12.f (b := Y) (by omega) 4).trans f4
  have f5 := (e12.f (b := Y) (by omega) 5).trans f5
  have f6 := (e12.f (b := Y) (by omega) 6).trans f6
  have f7 := (e12.f (b := Y) (by omega) 7).trans f7
  have f8 := (e12.f (b := Y) (by omega) 8).trans f8
  have f9 := (e12.f (b := Y) (by omega) 9).trans f9
  have f10 := (e12.f (b := Y) (by omega) 10).trans f10
  have f11 := (e12.f (b := Y) (by omega) 11).trans f11
  have h0 := (e12.f (b := Y) (by omega) 0).trans h0
  have h12 := (e12.f (b := Y) (by omega) 12).trans h12
  have h14 := (e12.f (b := Y) (by omega) 14).trans h14
  have h16 := (e12.f (b := Y) (by omega) 16).trans h16
  have z1 := (e12.k (by omega)).trans z1
  have z2 := (e12.k (by omega)).trans z2
  have z3 := (e12.k (by omega)).trans z3
  have z4 := (e12.k (by omega)).trans z4
  have z5 := (e12.k (by omega)).trans z5
  have z6 := (e12.k (by omega)).trans z6
  have z7 := (e12.k (by omega)).trans z7
  have z8 := (e12.k (by omega)).trans z8
  have z9 := (e12.k (by omega)).trans z9
  have z10 := (e12.k (by omega)).trans z10
  have z11 := (e12.k (by omega)).trans z11
  have i1 := (e12.i (by omega)).trans i1
  have i2 := (e12.i (by omega)).trans i2
  have g12 := g11.trans e12 (by omega)
  refine RW.pf hk rfl rfl ?_
  have f1 := (xpf_ne (a := Y) (j := 13) (v := .ref (Y + 12)) (fun _ => by decide)).trans f1
  have f2 := (xpf_ne (a := Y) (j := 13) (v := .ref (Y + 12)) (fun _ => by decide)).trans f2
  have f3 := (xpf_ne (a := Y) (j := 13) (v := .ref (Y + 12)) (fun _ => by decide)).trans f3
  have f4 := (xpf_ne (a := Y) (j := 13) (v := .ref (Y + 12)) (fun _ => by decide)).trans f4
  have f5 := (xpf_ne (a := Y) (j := 13) (v := .ref (Y + 12)) (fun _ => by decide)).trans f5
  have f6 := (xpf_ne (a := Y) (j := 13) (v := .ref (Y + 12)) (fun _ => by decide)).trans f6
  have f7 := (xpf_ne (a := Y) (j := 13) (v := .ref (Y + 12)) (fun _ => by decide)).trans f7
  have f8 := (xpf_ne (a := Y) (j := 13) (v := .ref (Y + 12)) (fun _ => by decide)).trans f8
  have f9 := (xpf_ne (a := Y) (j := 13) (v := .ref (Y + 12)) (fun _ => by decide)).trans f9
  have f10 := (xpf_ne (a := Y) (j := 13) (v := .ref (Y + 12)) (fun _ => by decide)).trans f10
  have f11 := (xpf_ne (a := Y) (j := 13) (v := .ref (Y + 12)) (fun _ => by decide)).trans f11
  have h0 := (xpf_ne (a := Y) (j := 13) (v := .ref (Y + 12)) (fun _ => by decide)).trans h0
  have h12 := (xpf_ne (a := Y) (j := 13) (v := .ref (Y + 12)) (fun _ => by decide)).trans h12
  have h14 := (xpf_ne (a := Y) (j := 13) (v := .ref (Y + 12)) (fun _ => by decide)).trans h14
  have h16 := (xpf_ne (a := Y) (j := 13) (v := .ref (Y + 12)) (fun _ => by decide)).trans h16
  have f12 : xf (xpf o12 Y 13 (.ref (Y + 12))) Y 13 = .ref (Y + 12) := xpf_same
  have z1 : xk (xpf o12 Y 13 (.ref (Y + 12))) _ = _ := z1
  have z2 : xk (xpf o12 Y 13 (.ref (Y + 12))) _ = _ := z2
  have z3 : xk (xpf o12 Y 13 (.ref (Y + 12))) _ = _ := z3
  have z4 : xk (xpf o12 Y 13 (.ref (Y + 12))) _ = _ := z4
  have z5 : xk (xpf o12 Y 13 (.ref (Y + 12))) _ = _ := z5
  have z6 : xk (xpf o12 Y 13 (.ref (Y + 12))) _ = _ := z6
  have z7 : xk (xpf o12 Y 13 (.ref (Y + 12))) _ = _ := z7
  have z8 : xk (xpf o12 Y 13 (.ref (Y + 12))) _ = _ := z8
  have z9 : xk (xpf o12 Y 13 (.ref (Y + 12))) _ = _ := z9
  have z10 : xk (xpf o12 Y 13 (.ref (Y + 12))) _ = _ := z10
  have z11 : xk (xpf o12 Y 13 (.ref (Y + 12))) _ = _ := z11
  have z12 : xk (xpf o12 Y 13 (.ref (Y + 12))) _ = _ := z12
  have i1 : xi (xpf o12 Y 13 (.ref (Y + 12))) _ = _ := i1
  have i2 : xi (xpf o12 Y 13 (.ref (Y + 12))) _ = _ := i2
  have g12 := g12.pf (p := Y) (j := 13) (v := .ref (Y + 12)) (by omega)
  have hk : xk (xpf o12 Y 13 (.ref (Y + 12))) Y = (3, 9) := hk
  generalize xpf o12 Y 13 (.ref (Y + 12)) = p12 at *
  refine RW.ps 2 rfl ?_
  refine RW.na (s := Y + 13) (k := 8200) g12.1 (by omega) rfl (by decide) ?_
  have e13 := Gw.mk (m := 8200) (kd := (1, 8200)) (fs := fun _ => .long 0) (s := Y + 13) g12.1
  have z13 := mk_k (m := 8200) (kd := (1, 8200)) (fs := fun _ => .long 0) (s := Y + 13) g12.1
  generalize xmk p12 (1, 8200) 8200 (fun _ => .long 0) = o13 at e13 z13 ⊢
  have hk := (e13.k (by omega)).trans hk
  have f1 := (e13.f (b := Y) (by omega) 1).trans f1
  have f2 := (e13.f (b := Y) (by omega) 2).trans f2
  have f3 := (e13.f (b := Y) (by omega) 3).trans f3
  have f4 := (e13.f (b := Y) (by omega) 4).trans f4
  have f5 := (e13.f (b := Y) (by omega) 5).trans f5
  have f6 := (e13.f (b := Y) (by omega) 6).trans f6
  have f7 := (e13.f (b := Y) (by omega) 7).trans f7
  have f8 := (e13.f (b := Y) (by omega) 8).trans f8
  have f9 := (e13.f (b := Y) (by omega) 9).trans f9
  have f10 := (e13.f (b := Y) (by omega) 10).trans f10
  have f11 := (e13.f (b := Y) (by omega) 11).trans f11
  have f12 := (e13.f (b := Y) (by omega) 13).trans f12
  have h0 := (e13.f (b := Y) (by omega) 0).trans h0
  have h12 := (e13.f (b := Y) (by omega) 12).trans h12
  have h14 := (e13.f (b := Y) (by omega) 14).trans h14
  have h16 := (e13.f (b := Y) (by omega) 16).trans h16
  have z1 := (e13.k (by omega)).trans z1
  have z2 := (e13.k (by omega)).trans z2
  have z3 := (e13.k (by omega)).trans z3
  have z4 := (e13.k (by omega)).trans z4
  have z5 := (e13.k (by omega)).trans z5
  have z6 := (e13.k (by omega)).trans z6
  have z7 := (e13.k (by omega)).trans z7
  have z8 := (e13.k (by omega)).trans z8
  have z9 := (e13.k (by omega)).trans z9
  have z10 := (e13.k (by omega)).trans z10
  have z11 := (e13.k (by omega)).trans z11
  have z12 := (e13.k (by omega)).trans z12
  have i1 := (e13.i (by omega)).trans i1
  have i2 := (e13.i (by omega)).trans i2
  have g13 := g12.trans e13 (by omega)
  refine RW.pf hk rfl rfl ?_
  have f1 := (xpf_ne (a := Y) (j := 15) (v := .ref (Y + 13)) (fun _ => by decide)).trans f1
  have f2 := (xpf_ne (a := Y) (j := 15) (v := .ref (Y + 13)) (fun _ => by decide)).trans f2
  have f3 := (xpf_ne (a := Y) (j := 15) (v := .ref (Y + 13)) (fun _ => by decide)).trans f3
  have f4 := (xpf_ne (a := Y) (j := 15) (v := .ref (Y + 13)) (fun _ => by decide)).trans f4
  have f5 := (xpf_ne (a := Y) (j := 15) (v := .ref (Y + 13)) (fun _ => by decide)).trans f5
  have f6 := (xpf_ne (a := Y) (j := 15) (v := .ref (Y + 13)) (fun _ => by decide)).trans f6
  have f7 := (xpf_ne (a := Y) (j := 15) (v := .ref (Y + 13)) (fun _ => by decide)).trans f7
  have f8 := (xpf_ne (a := Y) (j := 15) (v := .ref (Y + 13)) (fun _ => by decide)).trans f8
  have f9 := (xpf_ne (a := Y) (j := 15) (v := .ref (Y + 13)) (fun _ => by decide)).trans f9
  have f10 := (xpf_ne (a := Y) (j := 15) (v := .ref (Y + 13)) (fun _ => by decide)).trans f10
  have f11 := (xpf_ne (a := Y) (j := 15) (v := .ref (Y + 13)) (fun _ => by decide)).trans f11
  have f12 := (xpf_ne (a := Y) (j := 15) (v := .ref (Y + 13)) (fun _ => by decide)).trans f12
  have h0 := (xpf_ne (a := Y) (j := 15) (v := .ref (Y + 13)) (fun _ => by decide)).trans h0
  have h12 := (xpf_ne (a := Y) (j := 15) (v := .ref (Y + 13)) (fun _ => by decide)).trans h12
  have h14 := (xpf_ne (a := Y) (j := 15) (v := .ref (Y + 13)) (fun _ => by decide)).trans h14
  have h16 := (xpf_ne (a := Y) (j := 15) (v := .ref (Y + 13)) (fun _ => by decide)).trans h16
  have f13 : xf (xpf o13 Y 15 (.ref (Y + 13))) Y 15 = .ref (Y + 13) := xpf_same
  have z1 : xk (xpf o13 Y 15 (.ref (Y + 13))) _ = _ := z1
  have z2 : xk (xpf o13 Y 15 (.ref (Y + 13))) _ = _ := z2
  have z3 : xk (xpf o13 Y 15 (.ref (Y + 13))) _ = _ := z3
  have z4 : xk (xpf o13 Y 15 (.ref (Y + 13))) _ = _ := z4
  have z5 : xk (xpf o13 Y 15 (.ref (Y + 13))) _ = _ := z5
  have z6 : xk (xpf o13 Y 15 (.ref (Y + 13))) _ = _ := z6
  have z7 : xk (xpf o13 Y 15 (.ref (Y + 13))) _ = _ := z7
  have z8 : xk (xpf o13 Y 15 (.ref (Y + 13))) _ = _ := z8
  have z9 : xk (xpf o13 Y 15 (.ref (Y + 13))) _ = _ := z9
  have z10 : xk (xpf o13 Y 15 (.ref (Y + 13))) _ = _ := z10
  have z11 : xk (xpf o13 Y 15 (.ref (Y + 13))) _ = _ := z11
  have z12 : xk (xpf o13 Y 15 (.ref (Y + 13))) _ = _ := z12
  have z13 : xk (xpf o13 Y 15 (.ref (Y + 13))) _ = _ := z13
  have i1 : xi (xpf o13 Y 15 (.ref (Y + 13))) _ = _ := i1
  have i2 : xi (xpf o13 Y 15 (.ref (Y + 13))) _ = _ := i2
  have g13 := g13.pf (p := Y) (j := 15) (v := .ref (Y + 13)) (by omega)
  have hk : xk (xpf o13 Y 15 (.ref (Y + 13))) Y = (3, 9) := hk
  generalize xpf o13 Y 15 (.ref (Y + 13)) = p13 at *
  have hn0 : n16 0 = 0 := n16_zero.mpr rfl
  refine RW.re rfl rfl ⟨rfl, g13, ⟨hk, ⟨f1, f2, f3, f4, f5, f6, f7, f8, f9, f10, f11, f12, f13⟩, ⟨z1, z2, z3, z4, z5, z6, z7, z8, z9, z10, z11, z12, z13⟩⟩, fun i hi => ⟨⟨by rw [i1]; show (0 : Int32) = Int32.ofInt (n16 0 : Nat); rw [hn0]; rfl, fun k hk => ?_⟩, Nat.two_pow_pos _, by rw [i2]; rfl⟩, ⟨h14, Nat.zero_le _, fun i hi => absurd hi (Nat.not_lt_zero i)⟩, ⟨h16, Nat.zero_le _, fun i hi => absurd hi (Nat.not_lt_zero i)⟩, h0⟩
  have hk : k < n16 0 := hk
  rw [hn0] at hk
  exact absurd hk (Nat.not_lt_zero k)
