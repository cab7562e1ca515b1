/-! THE LAW RUNS. -/
theorem RW.ts {Q : xR → xO → Prop} {y : Nat} {is : List xI} {lv r : List Value} {o : xO} {len a b t : Nat} {v : Value} {d lo hi : Int} {offs : Array Int} {x : Int32} (h : xbr (.tableswitch d lo hi offs) a (.int x :: r) = some (true, t, r)) (k : RW Q y (xbk y t) lv r o) : RW Q y ((.tableswitch d lo hi offs, len, v, a, b) :: is) lv (.int x :: r) o :=
  RW.br rfl h (fun _ => k) (fun h => by cases h)
theorem low5 (x : Int32) : ∃ m : Nat, m < 32 ∧ x &&& 31 = Int32.ofInt (m : Int) := by
  refine ⟨x.toBitVec.toNat % 32, Nat.mod_lt _ (by decide), ?_⟩
  rw [in_eq]
  apply vi_inj
  apply BitVec.eq_of_toNat_eq
  show (x.toBitVec &&& 31#32).toNat = _
  rw [BitVec.toNat_and, vi_tn (by omega), show (31#32).toNat = 2 ^ 5 - 1 from rfl, Nat.and_two_pow_sub_one_eq_mod]
section LAW3
variable {s L X : Nat} {xs : Nat → Int32}
theorem law_loop (hs : s < X) (hL2 : L ≤ 320) : ∀ q k (iw : Int32) o, L + 1 ≤ 5 * (k + q) + 5 → iw.toInt = ((5 * k : Nat) : Int) → 5 * k ≤ L + 5 → LW s L X xs k o → RW LQ y_L_law (xbk y_L_law 23) [.ref s, .ref X, .ref (X + 108), .ref (X + 122), .int iw, xj, xj, xj] [] o := by
  intro q
  induction q with
  | zero =>
    intro k iw o hq hi hk hW
    obtain ⟨hZ, -⟩ := hW
    refine RW.ps 2 rfl ?_
    refine RW.al2 hZ.1 ?_
    refine RW.ps 2 rfl ?_
    refine RW.icm (fun _ => ?_) (fun g => ?_)
    · refine RW.ps 1 rfl ?_
      exact RW.re rfl rfl ⟨rfl, by have := hZ.2.2.2.1; omega, by have := hZ.2.2.2.2; omega⟩
    · have e : (Int32.ofNat L - 5).toInt = (L : Int) - 5 := by
        rw [show Int32.ofNat L = Int32.ofInt (L : Int) from (in_eq L).symm, show (5 : Int32) = Int32.ofInt 5 by decide, ii_sub, ii_toInt (by omega) (by omega)]
      rw [xi_gt, hi, e] at g; omega
  | succ q ih =>
    intro k iw o hq hi hk hW
    have hW' := hW
    obtain ⟨hZ, z, t, p, c, hWI, hMI⟩ := hW
    have e : (Int32.ofNat L - 5).toInt = (L : Int) - 5 := by
      rw [show Int32.ofNat L = Int32.ofInt (L : Int) from (in_eq L).symm, show (5 : Int32) = Int32.ofInt 5 by decide, ii_sub, ii_toInt (by omega) (by omega)]
    refine RW.ps 2 rfl ?_
    refine RW.al2 hZ.1 ?_
    refine RW.ps 2 rfl ?_
    refine RW.icm (fun _ => ?_) (fun g => ?_)
    · refine RW.ps 1 rfl ?_
      exact RW.re rfl rfl ⟨rfl, by have := hZ.2.2.2.1; omega, by have := hZ.2.2.2.2; omega⟩
    rw [xi_gt, hi, e] at g
    have hL : 5 * k + 5 ≤ L := by omega
    have hend : ∀ o2, LW s L X xs (k + 1) o2 → RW LQ y_L_law (xbk y_L_law 1285) [.ref s, .ref X, .ref (X + 108), .ref (X + 122), .int iw, xj, xj, xj] [] o2 := by
      intro o2 h2
      refine RW.ps 1 rfl ?_
      refine RW.go ?_
      refine ih (k + 1) (iw + 5) o2 (by omega) ?_ (by omega) h2
      rw [i_add hi (show (5 : Int32).toInt = ((5 : Nat) : Int) from rfl) (by omega)]
      congr 1
    refine RW.ps 2 rfl ?_
    refine RW.ia2 hZ.1 (k := 5 * k) hi (by omega) (congrFun hZ.2.1 _) ?_
    refine RW.ps 2 rfl ?_
    obtain ⟨m, hm, hv⟩ := low5 (xs (5 * k))
    refine RW.weak (lv0 := [.ref s, .ref X, .ref (X + 108), .ref (X + 122), .int iw, xj, xj, xj]) ⟨Or.inr rfl, Or.inr rfl, Or.inr rfl, Or.inr rfl, Or.inr rfl, Or.inl rfl, Or.inl rfl, Or.inl rfl, trivial⟩ ?_
    refine RW.top (congrArg Value.int (hv)) ?_
    have hdef : RW LQ y_L_law (xbk y_L_law 1285) [.ref s, .ref X, .ref (X + 108), .ref (X + 122), .int iw, xj, xj, xj] [] o := hend o ⟨hZ.more, z, t, p, c, hWI, hMI⟩
    rcases (show m = 0 ∨ m = 1 ∨ m = 2 ∨ m = 3 ∨ m = 4 ∨ m = 5 ∨ m = 6 ∨ m = 7 ∨ m = 8 ∨ m = 9 ∨ m = 10 ∨ m = 11 ∨ m = 12 ∨ m = 13 ∨ m = 14 ∨ m = 15 ∨ m = 16 ∨ m = 17 ∨ m = 18 ∨ m = 19 ∨ m = 20 ∨ m = 21 ∨ m = 22 ∨ m = 23 ∨ m = 24 ∨ m = 25 ∨ m = 26 ∨ m = 27 ∨ m = 28 ∨ m = 29 ∨ m = 30 ∨ m = 31 by omega) with h | h | h | h | h | h | h | h | h | h | h | h | h | h | h | h | h | h | h | h | h | h | h | h | h | h | h | h | h | h | h | h
    · subst h
      exact RW.ts (t := 132) rfl (law_set hs hi hL hL2 hZ hWI hMI hend)
    · subst h
      exact RW.ts (t := 212) rfl (law_move hs hi hL hL2 hZ hWI hMI hend)
    · subst h
      exact RW.ts (t := 260) rfl (law_reckon hs hi hL hL2 hZ hWI hMI hend)
    · subst h
      exact RW.ts (t := 332) rfl (law_divide hs hi hL hL2 hZ hWI hMI hend)
    · subst h
      exact RW.ts (t := 404) rfl (law_combine hs hi hL hL2 hZ hWI hMI hend)
    · subst h
      exact RW.ts (t := 476) rfl (law_shift hs hi hL hL2 hZ hWI hMI hend)
    · subst h
      exact RW.ts (t := 536) rfl (law_power hs hi hL hL2 hZ hWI hMI hend)
    · subst h
      exact RW.ts (t := 596) rfl (law_root hs hi hL hL2 hZ hWI hMI hend)
    · subst h
      exact RW.ts (t := 644) rfl (law_common hs hi hL hL2 hZ hWI hMI hend)
    · subst h
      exact RW.ts (t := 704) rfl (law_powerRest hs hi hL hL2 hZ hWI hMI hend)
    · subst h
      exact RW.ts (t := 776) rfl (law_compare hs hi hL hL2 hZ hWI hMI hend)
    · subst h
      exact RW.ts (t := 844) rfl (law_low hs hi hL hL2 hZ hWI hMI hend)
    · subst h
      exact RW.ts (t := 899) rfl (law_length hs hi hL hL2 hZ hWI hMI hend)
    · subst h
      exact RW.ts (t := 955) rfl (law_bit hs hi hL hL2 hZ hWI hMI hend)
    · subst h
      exact RW.ts (t := 1030) rfl (law_ones hs hi hL hL2 hZ hWI hMI hend)
    · subst h
      exact RW.ts (t := 1086) rfl (law_feed hs hi hL hL2 hZ hWI hMI hend)
    · subst h
      exact RW.ts (t := 1111) rfl (law_read hs hi hL hL2 hZ hWI hMI hend)
    · subst h
      exact RW.ts (t := 1179) rfl (law_print hs hi hL hL2 hZ hWI hMI hend)
    · subst h
      exact RW.ts (t := 1247) rfl (law_out hs hi hL hL2 hZ hWI hMI hend)
    · subst h
      exact RW.ts (t := 1272) rfl (law_turn hs hi hL hL2 hZ hWI hMI hend)
    · subst h
      exact RW.ts (t := 1285) rfl hdef
    · subst h
      exact RW.ts (t := 1285) rfl hdef
    · subst h
      exact RW.ts (t := 1285) rfl hdef
    · subst h
      exact RW.ts (t := 1285) rfl hdef
    · subst h
      exact RW.ts (t := 1285) rfl hdef
    · subst h
      exact RW.ts (t := 1285) rfl hdef
    · subst h
      exact RW.ts (t := 1285) rfl hdef
    · subst h
      exact RW.ts (t := 1285) rfl hdef
    · subst h
      exact RW.ts (t := 1285) rfl hdef
    · subst h
      exact RW.ts (t := 1285) rfl hdef
    · subst h
      exact RW.ts (t := 1285) rfl hdef
    · subst h
      exact RW.ts (t := 1285) rfl hdef
end LAW3
theorem xruns : xRuns := by
  intro b L sz xs hL hb
  have hz : xz (xo0 b L sz xs) = sz := rfl
  have hk : xk (xo0 b L sz xs) b = (2, L) := if_pos rfl
  have hi : xi (xo0 b L sz xs) b = xs := rfl
  have hc : xc (xo0 b L sz xs) = 0 := rfl
  have hn : xn (xo0 b L sz xs) = 0 := rfl
  refine RW.mk (s := sz) hz (by omega) (fun _ k1 k2 k3 => c_winit (by omega) k1 k2 k3) rfl rfl rfl rfl ?_
  intro o1 g1 w1
  refine RW.ps 1 rfl ?_
  refine RW.mk (s := sz + 108) g1.1 (by omega) (fun _ k1 k2 k3 => c_minit (by omega) k1 k2 k3) rfl rfl rfl rfl ?_
  intro o2 g2 m2
  have w2 := w1.sm (g2.sm (by omega))
  refine RW.ps 2 rfl ?_
  refine RW.na (s := sz + 122) (k := 1) g2.1 (by omega) rfl (by decide) ?_
  have g3 := Gw.mk (m := 1) (kd := (4, 1)) (fs := fun _ => .long 0) (s := sz + 122) g2.1
  have u3 := mk_k (m := 1) (kd := (4, 1)) (fs := fun _ => .long 0) (s := sz + 122) g2.1
  generalize xmk o2 (4, 1) 1 (fun _ => .long 0) = o3 at g3 u3 ⊢
  have w3 := w2.sm (g3.sm (by omega))
  have m3 := m2.sm (g3.sm (by omega))
  refine RW.ps 3 rfl ?_
  refine RW.weak (lv0 := [.ref b, .ref sz, .ref (sz + 108), .ref (sz + 122), .int 0, xj, xj, xj]) ⟨Or.inr rfl, Or.inr rfl, Or.inr rfl, Or.inr rfl, Or.inr rfl, Or.inl rfl, Or.inl rfl, Or.inl rfl, trivial⟩ ?_
  refine RW.sk [] rfl ?_
  have e1 := g1.2.1
  have e2 := g2.2.1
  have e3 := g3.2.1
  have d1 := g1.2.2.1
  have d2 := g2.2.2.1
  have d3 := g3.2.2.1
  rw [hc] at e1
  rw [hn] at d1
  have hx0 : xnf 0 = 10 := rfl
  have hx9 : xnf 9 = 17 := rfl
  rw [hx0] at d1
  rw [hx9] at d2
  refine law_loop (X := sz) (xs := xs) hb hL 64 0 0 o3 (by omega) rfl (by omega) ⟨⟨?_, ?_, u3, by omega, by omega⟩, _, _, _, _, w3, m3⟩
  · rw [g3.k (by omega), g2.k (by omega), g1.k (by omega)]; exact hk
  · rw [g3.i (by omega), g2.i (by omega), g1.i (by omega)]; exact hi
