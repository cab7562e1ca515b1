/-! PAGE: addGroup. -/
theorem c_addGroup {o : xO} {g y b n gr : Nat} {gw bw nw : Int32} {l : List Int32} (h : Px o g l) (hr : Rn o (g + 2) y) (hg : gw.toInt = (gr : Int)) (hb : bw.toInt = (b : Int)) (hn : nw.toInt = (n : Int)) (hb2 : 2 ≤ b) (hb3 : b ≤ 36) (hn2 : n < 2147483647) (hgr : gr < b ^ n) (hgr2 : gr < 2147483648) (hlen : l.length + (dgl b n (y * b ^ n + gr)).length ≤ 8193) :
    Cv y_Page_addGroup [.ref g, .int gw, .int bw, .int nw] o (fun o' => Fr [(g, 2)] o o' ∧ Px o' g (l ++ dgl b n (y * b ^ n + gr))) := by
  have hbw := i_of hb
  have hbpos : 0 < b := by omega
  have og : ∀ q, q < g ∨ g + 2 ≤ q → Out [(g, 2)] q := fun q hq => ⟨hq, trivial⟩
  have loop : ∀ m i (iw : Int32) (M : Nat) (l' : List Int32), i + m = n → iw.toInt = (i : Int) → M < b ^ m → M < 2147483648 → l' ++ dgl b m (y * b ^ m + M) = l ++ dgl b n (y * b ^ n + gr) → ∀ d6 w, Fr [(g, 2)] o w → Px w g l' →
      RW (fun r o' => r = .inl none ∧ (Fr [(g, 2)] o o' ∧ Px o' g (l ++ dgl b n (y * b ^ n + gr)))) y_Page_addGroup (xbk y_Page_addGroup 12) [.ref g, .int gw, .int bw, .int nw, .int (Int32.ofInt (M : Nat)), .int iw, d6] [] w := by
    intro m
    induction m with
    | zero =>
      intro i iw M l' hk hi hM hM2 hl' d6 w hf hp
      refine RW.ps 2 rfl ?_
      refine RW.icm (fun _ => ?_) (fun k => ?_)
      · rw [dgl, List.append_nil] at hl'
        rw [hl'] at hp
        exact RW.re rfl rfl ⟨rfl, hf, hp⟩
      · rw [xi_ge, hi, hn] at k; omega
    | succ m ih =>
      intro i iw M l' hk hi hM hM2 hl' d6 w hf hp
      have hr1 := hr.fr hf (og _ (by omega)) (og _ (by omega))
      have hbm : 0 < b ^ m := Nat.pow_pos hbpos
      have e1 : y * b ^ (m + 1) = b * (y * b ^ m) := by rw [Nat.pow_succ]; ac_rfl
      refine RW.ps 2 rfl ?_
      refine RW.icm (fun k => ?_) (fun _ => ?_)
      · rw [xi_ge, hi, hn] at k; omega
      refine RW.ps 1 rfl ?_
      have h33 : y * b ^ (m + 1) + M ≠ 0 → RW (fun r o' => r = .inl none ∧ (Fr [(g, 2)] o o' ∧ Px o' g (l ++ dgl b n (y * b ^ n + gr)))) y_Page_addGroup (xbk y_Page_addGroup 33) [.ref g, .int gw, .int bw, .int nw, .int (Int32.ofInt (M : Nat)), .int iw, xj] [] w := by
        intro hX
        rw [dgl, if_neg hX] at hl'
        have e2 : (y * b ^ (m + 1) + M) % b = M % b := by rw [e1, Nat.mul_add_mod]
        have e3 : (y * b ^ (m + 1) + M) / b = y * b ^ m + M / b := by rw [e1, Nat.mul_add_div hbpos]
        rw [e2, e3] at hl'
        have hMb : M % b < 36 := Nat.lt_of_lt_of_le (Nat.mod_lt _ hbpos) hb3
        have hMd : M / b < b ^ m := by rw [Nat.div_lt_iff_lt_mul hbpos, ← Nat.pow_succ]; exact hM
        have hMd2 : M / b < 2147483648 := Nat.lt_of_le_of_lt (Nat.div_le_self _ _) hM2
        have hln : l'.length < 8193 := by
          have := congrArg List.length hl'
          rw [List.length_append, List.length_append, List.length_cons] at this
          omega
        have hbz : ¬ bw = 0 := by intro z; rw [z, i0] at hb; omega
        refine RW.ps 2 rfl ?_
        refine RW.irm hbz ?_
        refine RW.top (congrArg Value.int ((show Int32.ofInt (M : Nat) - Int32.ofInt (M : Nat) / bw * bw = Int32.ofInt ((M % b : Nat) : Int) by rw [hbw]; exact i_rem hM2 (by omega)))) ?_
        refine RW.ps 4 rfl ?_
        refine RW.weak (lv0 := [.ref g, .int gw, .int bw, .int nw, .int (Int32.ofInt (M : Nat)), .int iw, .int (Int32.ofInt ((M % b : Nat) : Int))]) ⟨Or.inr rfl, Or.inr rfl, Or.inr rfl, Or.inr rfl, Or.inr rfl, Or.inr rfl, Or.inr rfl, trivial⟩ ?_
        refine RW.sk [.int 10, .int (Int32.ofInt ((M % b : Nat) : Int)), .ref g] rfl ?_
        have h63 : ∀ c, c = chr (M % b) → RW (fun r o' => r = .inl none ∧ (Fr [(g, 2)] o o' ∧ Px o' g (l ++ dgl b n (y * b ^ n + gr)))) y_Page_addGroup (xbk y_Page_addGroup 63) [.ref g, .int gw, .int bw, .int nw, .int (Int32.ofInt (M : Nat)), .int iw, xj] [.int c, .ref g] w := by
          intro c hc
          subst hc
          refine RW.cv rfl rfl (xrc_v rfl rfl hp.1) rfl rfl (c_pageAdd hp hln) ?_
          intro o2 ⟨hf2, hp2⟩
          refine RW.ps 2 rfl ?_
          refine RW.idv hbz ?_
          refine RW.top (congrArg Value.int ((show Int32.ofInt (M : Nat) / bw = Int32.ofInt ((M / b : Nat) : Int) by rw [hbw]; exact i_div hM2 (by omega)))) ?_
          refine RW.ps 2 rfl ?_
          refine RW.go ?_
          refine ih (i + 1) (iw + 1) (M / b) (l' ++ [chr (M % b)]) (by omega) (i_succ hi (by omega)) hMd hMd2 ?_ _ o2 (hf.trans hf2) hp2
          rw [List.append_assoc]; exact hl'
        refine RW.icm (fun k => ?_) (fun k => ?_)
        · rw [xi_ge, iu (by omega), show (10 : Int32).toInt = 10 from rfl] at k
          refine RW.ps 5 rfl ?_
          refine RW.top (congrArg Value.int ((show (65 : Int32) + Int32.ofInt ((M % b : Nat) : Int) - 10 = chr (M % b) by unfold chr; rw [if_neg (by omega), show (65 : Int32) = Int32.ofInt 65 by decide, show (10 : Int32) = Int32.ofInt 10 by decide, ii_add, ii_sub]; congr 1; omega))) ?_
          refine RW.weak (lv0 := [.ref g, .int gw, .int bw, .int nw, .int (Int32.ofInt (M : Nat)), .int iw, xj]) ⟨Or.inr rfl, Or.inr rfl, Or.inr rfl, Or.inr rfl, Or.inr rfl, Or.inr rfl, Or.inl rfl, trivial⟩ ?_
          refine RW.sk [.int (chr (M % b)), .ref g] rfl ?_
          exact h63 _ rfl
        · rw [xi_ge, iu (by omega), show (10 : Int32).toInt = 10 from rfl] at k
          refine RW.ps 3 rfl ?_
          refine RW.top (congrArg Value.int ((show (48 : Int32) + Int32.ofInt ((M % b : Nat) : Int) = chr (M % b) by unfold chr; rw [if_pos (by omega), show (48 : Int32) = Int32.ofInt 48 by decide, ii_add]; congr 1))) ?_
          refine RW.go ?_
          refine RW.weak (lv0 := [.ref g, .int gw, .int bw, .int nw, .int (Int32.ofInt (M : Nat)), .int iw, xj]) ⟨Or.inr rfl, Or.inr rfl, Or.inr rfl, Or.inr rfl, Or.inr rfl, Or.inr rfl, Or.inl rfl, trivial⟩ ?_
          refine RW.sk [.int (chr (M % b)), .ref g] rfl ?_
          exact h63 _ rfl
      refine RW.ifc (fun k => ?_) (fun k => ?_)
      · rw [xi_gt, iu hM2, i0] at k
        refine RW.weak (lv0 := [.ref g, .int gw, .int bw, .int nw, .int (Int32.ofInt (M : Nat)), .int iw, xj]) ⟨Or.inr rfl, Or.inr rfl, Or.inr rfl, Or.inr rfl, Or.inr rfl, Or.inr rfl, Or.inl rfl, trivial⟩ ?_
        refine RW.sk [] rfl ?_
        exact h33 (by omega)
      · rw [xi_gt, iu hM2, i0] at k
        refine RW.ps 1 rfl ?_
        refine RW.gf hp.1 hp.2.2.1 ?_
        refine RW.cp rfl rfl (xrc_v rfl rfl hr1.1.1) rfl rfl (c_isZero hr1) ?_
        by_cases hy : y = 0
        · rw [if_pos hy]
          refine RW.ifc (fun _ => ?_) (fun h2 => absurd (xi_ne.mpr (by decide)) h2)
          rw [show y * b ^ (m + 1) + M = 0 by rw [hy, Nat.zero_mul]; omega, dgl_0, List.append_nil] at hl'
          rw [hl'] at hp
          exact RW.re rfl rfl ⟨rfl, hf, hp⟩
        · rw [if_neg hy]
          refine RW.ifc (fun h2 => absurd rfl (xi_ne.mp h2)) (fun _ => ?_)
          refine RW.weak (lv0 := [.ref g, .int gw, .int bw, .int nw, .int (Int32.ofInt (M : Nat)), .int iw, xj]) ⟨Or.inr rfl, Or.inr rfl, Or.inr rfl, Or.inr rfl, Or.inr rfl, Or.inr rfl, Or.inl rfl, trivial⟩ ?_
          refine RW.sk [] rfl ?_
          exact h33 (by have := Nat.mul_pos (Nat.pos_of_ne_zero hy) (Nat.pow_pos (n := m + 1) hbpos); omega)
  refine RW.ps 2 rfl ?_
  refine RW.icm (fun _ => ?_) (fun k => ?_)
  · refine RW.ps 4 rfl ?_
    refine RW.weak (lv0 := [.ref g, .int gw, .int bw, .int nw, .int gw, .int 0, xj]) ⟨Or.inr rfl, Or.inr rfl, Or.inr rfl, Or.inr rfl, Or.inr rfl, Or.inr rfl, Or.inl rfl, trivial⟩ ?_
    refine RW.sk [] rfl ?_
    have hL := loop n 0 0 gr l (Nat.zero_add _) rfl hgr hgr2 rfl xj o (Fr.refl _ _) h
    rw [← i_of hg] at hL
    exact hL
  · rw [xi_ge, hb, show (2 : Int32).toInt = 2 from rfl] at k; omega
