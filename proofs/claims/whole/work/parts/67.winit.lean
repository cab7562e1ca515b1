/-! WHOLENUMBERS: its constructor. -/
def WP (o : xO) (X : Nat) : Prop := (xk o X = (3, 0) ∧ xf o X 0 = .ref (X + 1) ∧ xf o X 1 = .ref (X + 2) ∧ xf o X 2 = .ref (X + 5) ∧ xf o X 3 = .ref (X + 7) ∧ xf o X 4 = .ref (X + 9) ∧ xf o X 5 = .ref (X + 16) ∧ xf o X 6 = .ref (X + 30) ∧ xf o X 7 = .ref (X + 42) ∧ xf o X 8 = .ref (X + 54) ∧ xf o X 9 = .ref (X + 56)) ∧ xk o (X + 1) = (5, 16) ∧ Wn o (X + 2) 0 ∧ Rn o (X + 5) 0 ∧ Rn o (X + 7) 0 ∧ ZD o (X + 9) ∧ ZP o (X + 16) ∧ ZR o (X + 30) ∧ ZG o (X + 42) ∧ Tx o (X + 54) [] ∧ ZA o (X + 56) []
theorem WP.gw {o o' : xO} {X lo hi dc dn : Nat} (h : WP o X) (g : Gw lo hi dc dn o o') (hl : X + 60 ≤ lo) : WP o' X := by
  obtain ⟨⟨h0, h1, h2, h3, h4, h5, h6, h7, h8, h9, h10⟩, h11, z1, z2, z3, z4, z5, z6, z7, z8, z9⟩ := h
  have e : ∀ j, xf o' X j = xf o X j := fun j => g.f (by omega) j
  exact ⟨⟨by rw [g.k (by omega)]; exact h0, by rw [e]; exact h1, by rw [e]; exact h2, by rw [e]; exact h3, by rw [e]; exact h4, by rw [e]; exact h5, by rw [e]; exact h6, by rw [e]; exact h7, by rw [e]; exact h8, by rw [e]; exact h9, by rw [e]; exact h10⟩, by rw [g.k (by omega)]; exact h11, z1.sm (g.sm (by omega)), z2.sm (g.sm (by omega)), z3.sm (g.sm (by omega)), z4.sm (g.sm (by omega)), z5.sm (g.sm (by omega)), z6.sm (g.sm (by omega)), z7.sm (g.sm (by omega)), z8.sm (g.sm (by omega)), z9.sm (g.sm (by omega))⟩
theorem WP.pf {o : xO} {X j : Nat} {v : Value} (h : WP o X) : WP (xpf o (X + 1) j v) X := by
  obtain ⟨⟨h0, h1, h2, h3, h4, h5, h6, h7, h8, h9, h10⟩, h11, z1, z2, z3, z4, z5, z6, z7, z8, z9⟩ := h
  have e : ∀ k, xf (xpf o (X + 1) j v) X k = xf o X k := fun k => xpf_ne (fun e => absurd e (by omega))
  exact ⟨⟨h0, by rw [e]; exact h1, by rw [e]; exact h2, by rw [e]; exact h3, by rw [e]; exact h4, by rw [e]; exact h5, by rw [e]; exact h6, by rw [e]; exact h7, by rw [e]; exact h8, by rw [e]; exact h9, by rw [e]; exact h10⟩, h11, z1.sm (Sm.pf (by omega)), z2.sm (Sm.pf (by omega)), z3.sm (Sm.pf (by omega)), z4.sm (Sm.pf (by omega)), z5.sm (Sm.pf (by omega)), z6.sm (Sm.pf (by omega)), z7.sm (Sm.pf (by omega)), z8.sm (Sm.pf (by omega)), z9.sm (Sm.pf (by omega))⟩
theorem c_winit {o : xO} {X : Nat} (hr : 0 < X) (hk : xk o X = (3, 0)) (hz : xz o = X + 1) (hd : ∀ k, xf o X k = defaultValue (xft 0 k)) : Cv y_W_init [.ref X] o (fun o' => Gw X (X + 108) 107 32412 o o' ∧ WI o' X (fun _ => 0) [] []) := by
  have loop : ∀ (m i : Nat) (iw : Int32) q, i + m = 16 → iw.toInt = (i : Int) → Gw X (X + 60 + 3 * i) (59 + 3 * i) (23708 + 544 * i) o q → WP q X → (∀ j, j < i → xf q (X + 1) j = .ref (X + 60 + 3 * j) ∧ Wn q (X + 60 + 3 * j) 0) →
      RW (fun r o' => r = .inl none ∧ (Gw X (X + 108) 107 32412 o o' ∧ WI o' X (fun _ => 0) [] [])) y_W_init (xbk y_W_init 114) [.ref X, .int iw] [] q := by
    intro m
    induction m with
    | zero =>
      intro i iw q hi hiw g hp hj
      have hi16 : i = 16 := by omega
      subst hi16
      refine RW.ps 2 rfl ?_
      refine RW.gf hp.1.1 hp.1.2.1 ?_
      refine RW.al5 hp.2.1 ?_
      refine RW.icm (fun _ => ?_) (fun k => ?_)
      · obtain ⟨⟨h0, h1, h2, h3, h4, h5, h6, h7, h8, h9, h10⟩, h11, z1, z2, z3, z4, z5, z6, z7, z8, z9⟩ := hp
        refine RW.re rfl rfl ⟨rfl, g, ⟨h0, h1, h2, h3, h4, h5, h6, h7, h8, h9, h10, h11, fun j h => (hj j h).1⟩, ⟨_, z1⟩, ⟨_, z2⟩, ⟨_, z3⟩, z4, z5, z6, z7, z8, z9, fun j h => ⟨(hj j h).2, Nat.two_pow_pos _⟩⟩
      · rw [xi_ge, hiw, show (Int32.ofNat 16).toInt = 16 from rfl] at k; omega
    | succ m ih =>
      intro i iw q hi hiw g hp hj
      refine RW.ps 2 rfl ?_
      refine RW.gf hp.1.1 hp.1.2.1 ?_
      refine RW.al5 hp.2.1 ?_
      refine RW.icm (fun k => ?_) (fun _ => ?_)
      · rw [xi_ge, hiw, show (Int32.ofNat 16).toInt = 16 from rfl] at k; omega
      refine RW.ps 1 rfl ?_
      refine RW.gf hp.1.1 hp.1.2.1 ?_
      refine RW.ps 1 rfl ?_
      refine RW.mk (s := X + 60 + 3 * i) g.1 (by omega) (fun _ k1 k2 k3 => c_wholeInit (by omega) k1 k2 k3) rfl rfl rfl rfl ?_
      intro q1 e z
      have hp1 := hp.gw e (by omega)
      have g1 := g.trans e (by omega)
      have hj1 : ∀ j, j < i → xf q1 (X + 1) j = .ref (X + 60 + 3 * j) ∧ Wn q1 (X + 60 + 3 * j) 0 := fun j h => ⟨(e.f (by omega) j).trans (hj j h).1, (hj j h).2.sm (e.sm (by omega))⟩
      refine RW.aas hp1.2.1 hiw (by omega) z.1 ?_
      refine RW.ps 1 rfl ?_
      refine RW.go ?_
      refine ih (i + 1) (iw + 1) _ (by omega) (i_succ hiw (by omega)) ?_ hp1.pf ?_
      · have g2 := g1.pf (p := X + 1) (j := i) (v := .ref (X + 60 + 3 * i)) (by omega)
        rw [show X + 60 + 3 * (i + 1) = X + 60 + 3 * i + 3 by omega, show 59 + 3 * (i + 1) = 59 + 3 * i + (1 + 2) by omega, show 23708 + 544 * (i + 1) = 23708 + 544 * i + (xnf 1 + 542) by show _ = 23708 + 544 * i + 544; omega]
        exact g2
      · intro j h
        by_cases hji : j = i
        · subst hji
          exact ⟨xpf_same, z.sm (Sm.pf (by omega))⟩
        · exact ⟨(xpf_ne (fun _ => hji)).trans (hj1 j (by omega)).1, (hj1 j (by omega)).2.sm (Sm.pf (by omega))⟩
  refine RW.ps 1 rfl ?_
  refine RW.obj (by decide) ?_
  have g0 : Gw X (X + 1) 0 0 o o := Gw.refl hz
  refine RW.ps 2 rfl ?_
  refine RW.an (s := X + 1) (k := 16) g0.1 (by omega) rfl (by decide) ?_
  have e1 := Gw.mk (m := 16) (kd := (5, 16)) (fs := fun _ => .null) (s := X + 1) g0.1
  have z1 := mk_k (m := 16) (kd := (5, 16)) (fs := fun _ => .null) (s := X + 1) g0.1
  generalize xmk o (5, 16) 16 (fun _ => .null) = o1 at e1 z1 ⊢
  have hk := (e1.k (by omega)).trans hk
  have g1 := g0.trans e1 (by omega)
  refine RW.pf hk rfl rfl ?_
  have f1 : xf (xpf o1 X 0 (.ref (X + 1))) X 0 = .ref (X + 1) := xpf_same
  have z1 : xk (xpf o1 X 0 (.ref (X + 1))) _ = _ := z1
  have g1 := g1.pf (p := X) (j := 0) (v := .ref (X + 1)) (by omega)
  have hk : xk (xpf o1 X 0 (.ref (X + 1))) X = (3, 0) := hk
  generalize xpf o1 X 0 (.ref (X + 1)) = p1 at *
  refine RW.ps 1 rfl ?_
  refine RW.mk (s := X + 2) g1.1 (by omega) (fun _ k1 k2 k3 => c_wholeInit (by omega) k1 k2 k3) rfl rfl rfl rfl ?_
  intro o2 e2 z2
  have hk := (e2.k (by omega)).trans hk
  have f1 := (e2.f (by omega) 0).trans f1
  have z1 := (e2.k (by omega)).trans z1
  have g2 := g1.trans e2 (by omega)
  refine RW.pf hk rfl rfl ?_
  have f1 := (xpf_ne (a := X) (j := 1) (v := .ref (X + 2)) (fun _ => by decide)).trans f1
  have f2 : xf (xpf o2 X 1 (.ref (X + 2))) X 1 = .ref (X + 2) := xpf_same
  have z1 : xk (xpf o2 X 1 (.ref (X + 2))) _ = _ := z1
  have z2 := z2.sm (Sm.pf (p := X) (j := 1) (v := .ref (X + 2)) (by omega))
  have g2 := g2.pf (p := X) (j := 1) (v := .ref (X + 2)) (by omega)
  have hk : xk (xpf o2 X 1 (.ref (X + 2))) X = (3, 0) := hk
  generalize xpf o2 X 1 (.ref (X + 2)) = p2 at *
  refine RW.ps 1 rfl ?_
  refine RW.mk (s := X + 5) g2.1 (by omega) (fun _ k1 k2 k3 => c_rowInit (by omega) k1 k2 k3) rfl rfl rfl rfl ?_
  intro o3 e3 z3
  have hk := (e3.k (by omega)).trans hk
  have f1 := (e3.f (by omega) 0).trans f1
  have f2 := (e3.f (by omega) 1).trans f2
  have z1 := (e3.k (by omega)).trans z1
  have z2 := z2.sm (e3.sm (by omega))
  have g3 := g2.trans e3 (by omega)
  refine RW.pf hk rfl rfl ?_
  have f1 := (xpf_ne (a := X) (j := 2) (v := .ref (X + 5)) (fun _ => by decide)).trans f1
  have f2 := (xpf_ne (a := X) (j := 2) (v := .ref (X + 5)) (fun _ => by decide)).trans f2
  have f3 : xf (xpf o3 X 2 (.ref (X + 5))) X 2 = .ref (X + 5) := xpf_same
  have z1 : xk (xpf o3 X 2 (.ref (X + 5))) _ = _ := z1
  have z2 := z2.sm (Sm.pf (p := X) (j := 2) (v := .ref (X + 5)) (by omega))
  have z3 := z3.sm (Sm.pf (p := X) (j := 2) (v := .ref (X + 5)) (by omega))
  have g3 := g3.pf (p := X) (j := 2) (v := .ref (X + 5)) (by omega)
  have hk : xk (xpf o3 X 2 (.ref (X + 5))) X = (3, 0) := hk
  generalize xpf o3 X 2 (.ref (X + 5)) = p3 at *
  refine RW.ps 1 rfl ?_
  refine RW.mk (s := X + 7) g3.1 (by omega) (fun _ k1 k2 k3 => c_rowInit (by omega) k1 k2 k3) rfl rfl rfl rfl ?_
  intro o4 e4 z4
  have hk := (e4.k (by omega)).trans hk
  have f1 := (e4.f (by omega) 0).trans f1
  have f2 := (e4.f (by omega) 1).trans f2
  have f3 := (e4.f (by omega) 2).trans f3
  have z1 := (e4.k (by omega)).trans z1
  have z2 := z2.sm (e4.sm (by omega))
  have z3 := z3.sm (e4.sm (by omega))
  have g4 := g3.trans e4 (by omega)
  refine RW.pf hk rfl rfl ?_
  have f1 := (xpf_ne (a := X) (j := 3) (v := .ref (X + 7)) (fun _ => by decide)).trans f1
  have f2 := (xpf_ne (a := X) (j := 3) (v := .ref (X + 7)) (fun _ => by decide)).trans f2
  have f3 := (xpf_ne (a := X) (j := 3) (v := .ref (X + 7)) (fun _ => by decide)).trans f3
  have f4 : xf (xpf o4 X 3 (.ref (X + 7))) X 3 = .ref (X + 7) := xpf_same
  have z1 : xk (xpf o4 X 3 (.ref (X + 7))) _ = _ := z1
  have z2 := z2.sm (Sm.pf (p := X) (j := 3) (v := .ref (X + 7)) (by omega))
  have z3 := z3.sm (Sm.pf (p := X) (j := 3) (v := .ref (X + 7)) (by omega))
  have z4 := z4.sm (Sm.pf (p := X) (j := 3) (v := .ref (X + 7)) (by omega))
  have g4 := g4.pf (p := X) (j := 3) (v := .ref (X + 7)) (by omega)
  have hk : xk (xpf o4 X 3 (.ref (X + 7))) X = (3, 0) := hk
  generalize xpf o4 X 3 (.ref (X + 7)) = p4 at *
  refine RW.ps 1 rfl ?_
  refine RW.mk (s := X + 9) g4.1 (by omega) (fun _ k1 k2 k3 => c_dividerInit (by omega) k1 k2 k3) rfl rfl rfl rfl ?_
  intro o5 e5 z5
  have hk := (e5.k (by omega)).trans hk
  have f1 := (e5.f (by omega) 0).trans f1
  have f2 := (e5.f (by omega) 1).trans f2
  have f3 := (e5.f (by omega) 2).trans f3
  have f4 := (e5.f (by omega) 3).trans f4
  have z1 := (e5.k (by omega)).trans z1
  have z2 := z2.sm (e5.sm (by omega))
  have z3 := z3.sm (e5.sm (by omega))
  have z4 := z4.sm (e5.sm (by omega))
  have g5 := g4.trans e5 (by omega)
  refine RW.pf hk rfl rfl ?_
  have f1 := (xpf_ne (a := X) (j := 4) (v := .ref (X + 9)) (fun _ => by decide)).trans f1
  have f2 := (xpf_ne (a := X) (j := 4) (v := .ref (X + 9)) (fun _ => by decide)).trans f2
  have f3 := (xpf_ne (a := X) (j := 4) (v := .ref (X + 9)) (fun _ => by decide)).trans f3
  have f4 := (xpf_ne (a := X) (j := 4) (v := .ref (X + 9)) (fun _ => by decide)).trans f4
  have f5 : xf (xpf o5 X 4 (.ref (X + 9))) X 4 = .ref (X + 9) := xpf_same
  have z1 : xk (xpf o5 X 4 (.ref (X + 9))) _ = _ := z1
  have z2 := z2.sm (Sm.pf (p := X) (j := 4) (v := .ref (X + 9)) (by omega))
  have z3 := z3.sm (Sm.pf (p := X) (j := 4) (v := .ref (X + 9)) (by omega))
  have z4 := z4.sm (Sm.pf (p := X) (j := 4) (v := .ref (X + 9)) (by omega))
  have z5 := z5.sm (Sm.pf (p := X) (j := 4) (v := .ref (X + 9)) (by omega))
  have g5 := g5.pf (p := X) (j := 4) (v := .ref (X + 9)) (by omega)
  have hk : xk (xpf o5 X 4 (.ref (X + 9))) X = (3, 0) := hk
  generalize xpf o5 X 4 (.ref (X + 9)) = p5 at *
  refine RW.ps 1 rfl ?_
  refine RW.mk (s := X + 16) g5.1 (by omega) (fun _ k1 k2 k3 => c_powersInit (by omega) k1 k2 k3) rfl rfl rfl rfl ?_
  intro o6 e6 z6
  have hk := (e6.k (by omega)).trans hk
  have f1 := (e6.f (by omega) 0).trans f1
  have f2 := (e6.f (by omega) 1).trans f2
  have f3 := (e6.f (by omega) 2).trans f3
  have f4 := (e6.f (by omega) 3).trans f4
  have f5 := (e6.f (by omega) 4).trans f5
  have z1 := (e6.k (by omega)).trans z1
  have z2 := z2.sm (e6.sm (by omega))
  have z3 := z3.sm (e6.sm (by omega))
  have z4 := z4.sm (e6.sm (by omega))
  have z5 := z5.sm (e6.sm (by omega))
  have g6 := g5.trans e6 (by omega)
  refine RW.pf hk rfl rfl ?_
  have f1 := (xpf_ne (a := X) (j := 5) (v := .ref (X + 16)) (fun _ => by decide)).trans f1
  have f2 := (xpf_ne (a := X) (j := 5) (v := .ref (X + 16)) (fun _ => by decide)).trans f2
  have f3 := (xpf_ne (a := X) (j := 5) (v := .ref (X + 16)) (fun _ => by decide)).trans f3
  have f4 := (xpf_ne (a := X) (j := 5) (v := .ref (X + 16)) (fun _ => by decide)).trans f4
  have f5 := (xpf_ne (a := X) (j := 5) (v := .ref (X + 16)) (fun _ => by decide)).trans f5
  have f6 : xf (xpf o6 X 5 (.ref (X + 16))) X 5 = .ref (X + 16) := xpf_same
  have z1 : xk (xpf o6 X 5 (.ref (X + 16))) _ = _ := z1
  have z2 := z2.sm (Sm.pf (p := X) (j := 5) (v := .ref (X + 16)) (by omega))
  have z3 := z3.sm (Sm.pf (p := X) (j := 5) (v := .ref (X + 16)) (by omega))
  have z4 := z4.sm (Sm.pf (p := X) (j := 5) (v := .ref (X + 16)) (by omega))
  have z5 := z5.sm (Sm.pf (p := X) (j := 5) (v := .ref (X + 16)) (by omega))
  have z6 := z6.sm (Sm.pf (p := X) (j := 5) (v := .ref (X + 16)) (by omega))
  have g6 := g6.pf (p := X) (j := 5) (v := .ref (X + 16)) (by omega)
  have hk : xk (xpf o6 X 5 (.ref (X + 16))) X = (3, 0) := hk
  generalize xpf o6 X 5 (.ref (X + 16)) = p6 at *
  refine RW.ps 1 rfl ?_
  refine RW.mk (s := X + 30) g6.1 (by omega) (fun _ k1 k2 k3 => c_rootsInit (by omega) k1 k2 k3) rfl rfl rfl rfl ?_
  intro o7 e7 z7
  have hk := (e7.k (by omega)).trans hk
  have f1 := (e7.f (by omega) 0).trans f1
  have f2 := (e7.f (by omega) 1).trans f2
  have f3 := (e7.f (by omega) 2).trans f3
  have f4 := (e7.f (by omega) 3).trans f4
  have f5 := (e7.f (by omega) 4).trans f5
  have f6 := (e7.f (by omega) 5).trans f6
  have z1 := (e7.k (by omega)).trans z1
  have z2 := z2.sm (e7.sm (by omega))
  have z3 := z3.sm (e7.sm (by omega))
  have z4 := z4.sm (e7.sm (by omega))
  have z5 := z5.sm (e7.sm (by omega))
  have z6 := z6.sm (e7.sm (by omega))
  have g7 := g6.trans e7 (by omega)
  refine RW.pf hk rfl rfl ?_
  have f1 := (xpf_ne (a := X) (j := 6) (v := .ref (X + 30)) (fun _ => by decide)).trans f1
  have f2 := (xpf_ne (a := X) (j := 6) (v := .ref (X + 30)) (fun _ => by decide)).trans f2
  have f3 := (xpf_ne (a := X) (j := 6) (v := .ref (X + 30)) (fun _ => by decide)).trans f3
  have f4 := (xpf_ne (a := X) (j := 6) (v := .ref (X + 30)) (fun _ => by decide)).trans f4
  have f5 := (xpf_ne (a := X) (j := 6) (v := .ref (X + 30)) (fun _ => by decide)).trans f5
  have f6 := (xpf_ne (a := X) (j := 6) (v := .ref (X + 30)) (fun _ => by decide)).trans f6
  have f7 : xf (xpf o7 X 6 (.ref (X + 30))) X 6 = .ref (X + 30) := xpf_same
  have z1 : xk (xpf o7 X 6 (.ref (X + 30))) _ = _ := z1
  have z2 := z2.sm (Sm.pf (p := X) (j := 6) (v := .ref (X + 30)) (by omega))
  have z3 := z3.sm (Sm.pf (p := X) (j := 6) (v := .ref (X + 30)) (by omega))
  have z4 := z4.sm (Sm.pf (p := X) (j := 6) (v := .ref (X + 30)) (by omega))
  have z5 := z5.sm (Sm.pf (p := X) (j := 6) (v := .ref (X + 30)) (by omega))
  have z6 := z6.sm (Sm.pf (p := X) (j := 6) (v := .ref (X + 30)) (by omega))
  have z7 := z7.sm (Sm.pf (p := X) (j := 6) (v := .ref (X + 30)) (by omega))
  have g7 := g7.pf (p := X) (j := 6) (v := .ref (X + 30)) (by omega)
  have hk : xk (xpf o7 X 6 (.ref (X + 30))) X = (3, 0) := hk
  generalize xpf o7 X 6 (.ref (X + 30)) = p7 at *
  refine RW.ps 1 rfl ?_
  refine RW.mk (s := X + 42) g7.1 (by omega) (fun _ k1 k2 k3 => c_divisorsInit (by omega) k1 k2 k3) rfl rfl rfl rfl ?_
  intro o8 e8 z8
  have hk := (e8.k (by omega)).trans hk
  have f1 := (e8.f (by omega) 0).trans f1
  have f2 := (e8.f (by omega) 1).trans f2
  have f3 := (e8.f (by omega) 2).trans f3
  have f4 := (e8.f (by omega) 3).trans f4
  have f5 := (e8.f (by omega) 4).trans f5
  have f6 := (e8.f (by omega) 5).trans f6
  have f7 := (e8.f (by omega) 6).trans f7
  have z1 := (e8.k (by omega)).trans z1
  have z2 := z2.sm (e8.sm (by omega))
  have z3 := z3.sm (e8.sm (by omega))
  have z4 := z4.sm (e8.sm (by omega))
  have z5 := z5.sm (e8.sm (by omega))
  have z6 := z6.sm (e8.sm (by omega))
  have z7 := z7.sm (e8.sm (by omega))
  have g8 := g7.trans e8 (by omega)
  refine RW.pf hk rfl rfl ?_
  have f1 := (xpf_ne (a := X) (j := 7) (v := .ref (X + 42)) (fun _ => by decide)).trans f1
  have f2 := (xpf_ne (a := X) (j := 7) (v := .ref (X + 42)) (fun _ => by decide)).trans f2
  have f3 := (xpf_ne (a := X) (j := 7) (v := .ref (X + 42)) (fun _ => by decide)).trans f3
  have f4 := (xpf_ne (a := X) (j := 7) (v := .ref (X + 42)) (fun _ => by decide)).trans f4
  have f5 := (xpf_ne (a := X) (j := 7) (v := .ref (X + 42)) (fun _ => by decide)).trans f5
  have f6 := (xpf_ne (a := X) (j := 7) (v := .ref (X + 42)) (fun _ => by decide)).trans f6
  have f7 := (xpf_ne (a := X) (j := 7) (v := .ref (X + 42)) (fun _ => by decide)).trans f7
  have f8 : xf (xpf o8 X 7 (.ref (X + 42))) X 7 = .ref (X + 42) := xpf_same
  have z1 : xk (xpf o8 X 7 (.ref (X + 42))) _ = _ := z1
  have z2 := z2.sm (Sm.pf (p := X) (j := 7) (v := .ref (X + 42)) (by omega))
  have z3 := z3.sm (Sm.pf (p := X) (j := 7) (v := .ref (X + 42)) (by omega))
  have z4 := z4.sm (Sm.pf (p := X) (j := 7) (v := .ref (X + 42)) (by omega))
  have z5 := z5.sm (Sm.pf (p := X) (j := 7) (v := .ref (X + 42)) (by omega))
  have z6 := z6.sm (Sm.pf (p := X) (j := 7) (v := .ref (X + 42)) (by omega))
  have z7 := z7.sm (Sm.pf (p := X) (j := 7) (v := .ref (X + 42)) (by omega))
  have z8 := z8.sm (Sm.pf (p := X) (j := 7) (v := .ref (X + 42)) (by omega))
  have g8 := g8.pf (p := X) (j := 7) (v := .ref (X + 42)) (by omega)
  have hk : xk (xpf o8 X 7 (.ref (X + 42))) X = (3, 0) := hk
  generalize xpf o8 X 7 (.ref (X + 42)) = p8 at *
  refine RW.ps 1 rfl ?_
  refine RW.mk (s := X + 54) g8.1 (by omega) (fun _ k1 k2 k3 => c_textInit (by omega) k1 k2 k3) rfl rfl rfl rfl ?_
  intro o9 e9 z9
  have hk := (e9.k (by omega)).trans hk
  have f1 := (e9.f (by omega) 0).trans f1
  have f2 := (e9.f (by omega) 1).trans f2
  have f3 := (e9.f (by omega) 2).trans f3
  have f4 := (e9.f (by omega) 3).trans f4
  have f5 := (e9.f (by omega) 4).trans f5
  have f6 := (e9.f (by omega) 5).trans f6
  have f7 := (e9.f (by omega) 6).trans f7
  have f8 := (e9.f (by omega) 7).trans f8
  have z1 := (e9.k (by omega)).trans z1
  have z2 := z2.sm (e9.sm (by omega))
  have z3 := z3.sm (e9.sm (by omega))
  have z4 := z4.sm (e9.sm (by omega))
  have z5 := z5.sm (e9.sm (by omega))
  have z6 := z6.sm (e9.sm (by omega))
  have z7 := z7.sm (e9.sm (by omega))
  have z8 := z8.sm (e9.sm (by omega))
  have g9 := g8.trans e9 (by omega)
  refine RW.pf hk rfl rfl ?_
  have f1 := (xpf_ne (a := X) (j := 8) (v := .ref (X + 54)) (fun _ => by decide)).trans f1
  have f2 := (xpf_ne (a := X) (j := 8) (v := .ref (X + 54)) (fun _ => by decide)).trans f2
  have f3 := (xpf_ne (a := X) (j := 8) (v := .ref (X + 54)) (fun _ => by decide)).trans f3
  have f4 := (xpf_ne (a := X) (j := 8) (v := .ref (X + 54)) (fun _ => by decide)).trans f4
  have f5 := (xpf_ne (a := X) (j := 8) (v := .ref (X + 54)) (fun _ => by decide)).trans f5
  have f6 := (xpf_ne (a := X) (j := 8) (v := .ref (X + 54)) (fun _ => by decide)).trans f6
  have f7 := (xpf_ne (a := X) (j := 8) (v := .ref (X + 54)) (fun _ => by decide)).trans f7
  have f8 := (xpf_ne (a := X) (j := 8) (v := .ref (X + 54)) (fun _ => by decide)).trans f8
  have f9 : xf (xpf o9 X 8 (.ref (X + 54))) X 8 = .ref (X + 54) := xpf_same
  have z1 : xk (xpf o9 X 8 (.ref (X + 54))) _ = _ := z1
  have z2 := z2.sm (Sm.pf (p := X) (j := 8) (v := .ref (X + 54)) (by omega))
  have z3 := z3.sm (Sm.pf (p := X) (j := 8) (v := .ref (X + 54)) (by omega))
  have z4 := z4.sm (Sm.pf (p := X) (j := 8) (v := .ref (X + 54)) (by omega))
  have z5 := z5.sm (Sm.pf (p := X) (j := 8) (v := .ref (X + 54)) (by omega))
  have z6 := z6.sm (Sm.pf (p := X) (j := 8) (v := .ref (X + 54)) (by omega))
  have z7 := z7.sm (Sm.pf (p := X) (j := 8) (v := .ref (X + 54)) (by omega))
  have z8 := z8.sm (Sm.pf (p := X) (j := 8) (v := .ref (X + 54)) (by omega))
  have z9 := z9.sm (Sm.pf (p := X) (j := 8) (v := .ref (X + 54)) (by omega))
  have g9 := g9.pf (p := X) (j := 8) (v := .ref (X + 54)) (by omega)
  have hk : xk (xpf o9 X 8 (.ref (X + 54))) X = (3, 0) := hk
  generalize xpf o9 X 8 (.ref (X + 54)) = p9 at *
  refine RW.ps 1 rfl ?_
  refine RW.mk (s := X + 56) g9.1 (by omega) (fun _ k1 k2 k3 => c_pageInit (by omega) k1 k2 k3) rfl rfl rfl rfl ?_
  intro o10 e10 z10
  have hk := (e10.k (by omega)).trans hk
  have f1 := (e10.f (by omega) 0).trans f1
  have f2 := (e10.f (by omega) 1).trans f2
  have f3 := (e10.f (by omega) 2).trans f3
  have f4 := (e10.f (by omega) 3).trans f4
  have f5 := (e10.f (by omega) 4).trans f5
  have f6 := (e10.f (by omega) 5).trans f6
  have f7 := (e10.f (by omega) 6).trans f7
  have f8 := (e10.f (by omega) 7).trans f8
  have f9 := (e10.f (by omega) 8).trans f9
  have z1 := (e10.k (by omega)).trans z1
  have z2 := z2.sm (e10.sm (by omega))
  have z3 := z3.sm (e10.sm (by omega))
  have z4 := z4.sm (e10.sm (by omega))
  have z5 := z5.sm (e10.sm (by omega))
  have z6 := z6.sm (e10.sm (by omega))
  have z7 := z7.sm (e10.sm (by omega))
  have z8 := z8.sm (e10.sm (by omega))
  have z9 := z9.sm (e10.sm (by omega))
  have g10 := g9.trans e10 (by omega)
  refine RW.pf hk rfl rfl ?_
  have f1 := (xpf_ne (a := X) (j := 9) (v := .ref (X + 56)) (fun _ => by decide)).trans f1
  have f2 := (xpf_ne (a := X) (j := 9) (v := .ref (X + 56)) (fun _ => by decide)).trans f2
  have f3 := (xpf_ne (a := X) (j := 9) (v := .ref (X + 56)) (fun _ => by decide)).trans f3
  have f4 := (xpf_ne (a := X) (j := 9) (v := .ref (X + 56)) (fun _ => by decide)).trans f4
  have f5 := (xpf_ne (a := X) (j := 9) (v := .ref (X + 56)) (fun _ => by decide)).trans f5
  have f6 := (xpf_ne (a := X) (j := 9) (v := .ref (X + 56)) (fun _ => by decide)).trans f6
  have f7 := (xpf_ne (a := X) (j := 9) (v := .ref (X + 56)) (fun _ => by decide)).trans f7
  have f8 := (xpf_ne (a := X) (j := 9) (v := .ref (X + 56)) (fun _ => by decide)).trans f8
  have f9 := (xpf_ne (a := X) (j := 9) (v := .ref (X + 56)) (fun _ => by decide)).trans f9
  have f10 : xf (xpf o10 X 9 (.ref (X + 56))) X 9 = .ref (X + 56) := xpf_same
  have z1 : xk (xpf o10 X 9 (.ref (X + 56))) _ = _ := z1
  have z2 := z2.sm (Sm.pf (p := X) (j := 9) (v := .ref (X + 56)) (by omega))
  have z3 := z3.sm (Sm.pf (p := X) (j := 9) (v := .ref (X + 56)) (by omega))
  have z4 := z4.sm (Sm.pf (p := X) (j := 9) (v := .ref (X + 56)) (by omega))
  have z5 := z5.sm (Sm.pf (p := X) (j := 9) (v := .ref (X + 56)) (by omega))
  have z6 := z6.sm (Sm.pf (p := X) (j := 9) (v := .ref (X + 56)) (by omega))
  have z7 := z7.sm (Sm.pf (p := X) (j := 9) (v := .ref (X + 56)) (by omega))
  have z8 := z8.sm (Sm.pf (p := X) (j := 9) (v := .ref (X + 56)) (by omega))
  have z9 := z9.sm (Sm.pf (p := X) (j := 9) (v := .ref (X + 56)) (by omega))
  have z10 := z10.sm (Sm.pf (p := X) (j := 9) (v := .ref (X + 56)) (by omega))
  have g10 := g10.pf (p := X) (j := 9) (v := .ref (X + 56)) (by omega)
  have hk : xk (xpf o10 X 9 (.ref (X + 56))) X = (3, 0) := hk
  generalize xpf o10 X 9 (.ref (X + 56)) = p10 at *
  refine RW.ps 2 rfl ?_
  refine RW.weak (lv0 := [.ref X, .int 0]) ⟨Or.inr rfl, Or.inr rfl, trivial⟩ ?_
  refine RW.sk [] rfl ?_
  exact loop 16 0 0 p10 rfl rfl g10 ⟨⟨hk, f1, f2, f3, f4, f5, f6, f7, f8, f9, f10⟩, z1, z2, z3, z4, z5, z6, z7, z8, z9, z10⟩ (fun j h => absurd h (Nat.not_lt_zero j))
