/-! HOW A RUN IS WALKED: less known of the locals; fields, arrays, calls. -/
def xle (lv lv' : List Value) : Prop := lv.length ≤ lv'.length ∧ ∀ i, xld lv i ≠ xj → xld lv' i = xld lv i
theorem xle.set {lv lv' : List Value} (h : xle lv lv') (i : Nat) (v : Value) : xle (lv.set i v) (lv'.set i v) := by
  refine ⟨by simp only [List.length_set]; exact h.1, fun j hj => ?_⟩
  rw [xld_set] at hj ⊢
  rw [xld_set]
  by_cases hij : i = j
  · rw [if_pos hij] at hj
    rw [if_pos hij, if_pos hij]
    by_cases hl : i < lv.length
    · rw [if_pos hl, if_pos (Nat.lt_of_lt_of_le hl h.1)]
    · rw [if_neg hl] at hj; exact absurd rfl hj
  · rw [if_neg hij] at hj
    rw [if_neg hij, if_neg hij]
    exact h.2 j hj
theorem xle.setj {lv lv' : List Value} (h : xle lv lv') (i : Nat) (v : Value) : xle (lv.set i xj) (lv'.set i v) := by
  refine ⟨by simp only [List.length_set]; exact h.1, fun j hj => ?_⟩
  rw [xld_set] at hj ⊢
  rw [xld_set]
  by_cases hij : i = j
  · rw [if_pos hij] at hj
    exact absurd (by split <;> rfl) hj
  · rw [if_neg hij] at hj
    rw [if_neg hij, if_neg hij]
    exact h.2 j hj
theorem xle.unset {lv lv' : List Value} (h : xle lv lv') (i : Nat) (hi : xld lv i = xj) (v : Value) : xle lv (lv'.set i v) := by
  refine ⟨by simp only [List.length_set]; exact h.1, fun j hj => ?_⟩
  rw [xld_set]
  by_cases hij : i = j
  · exact absurd (hij ▸ hi) hj
  · rw [if_neg hij]; exact h.2 j hj
theorem xle.kl {lv lv' : List Value} (h : xle lv lv') (i : Nat) : xle (xkl lv i) (xkl lv' i) := by
  cases i with
  | zero => exact h
  | succ k =>
    by_cases hj : xld lv k = xj
    · have e : xkl lv (k + 1) = lv := by rw [xkl, hj]; rfl
      rw [e]
      rcases xkl_cases lv' k with h1 | ⟨h1, -⟩
      · rw [h1]; exact h.unset k hj xj
      · rw [h1]; exact h
    · have e := h.2 k hj
      rw [xkl, xkl, e]
      cases xld lv k with
      | long x => exact h.set k xj
      | double x => exact h.set k xj
      | _ => exact h
theorem xle.s1 {lv lv' : List Value} (h : xle lv lv') (i : Nat) (v : Value) : xle (xs1 lv i v) (xs1 lv' i v) := (h.kl i).set i v
theorem xle.s2 {lv lv' : List Value} (h : xle lv lv') (i : Nat) (v : Value) : xle (xs2 lv i v) (xs2 lv' i v) := ((h.kl i).set i v).set (i + 1) xj
set_option maxHeartbeats 4000000 in
theorem xpu_le {i : Instr} {v : Value} {a : Nat} {lv lv' st lv1 st1 : List Value} (h : xpu i v a lv st = some (lv1, st1)) (hl : xle lv lv') : ∃ lv2, xpu i v a lv' st = some (lv2, st1) ∧ xle lv1 lv2 := by
  have ld : ∀ w : Value, xld lv a = w → w ≠ xj → xld lv' a = w := fun w h1 h2 => by rw [← h1]; exact hl.2 a (by rw [h1]; exact h2)
  cases i <;> first
    | (cases h; done)
    | (cases h; exact ⟨_, rfl, hl⟩)
    | (unfold xpu at h ⊢; dsimp only at h ⊢; split at h <;> first
        | (cases h; done)
        | (cases h; exact ⟨_, rfl, hl⟩)
        | (cases h; exact ⟨_, rfl, hl.s1 _ _⟩)
        | (cases h; exact ⟨_, rfl, hl.s2 _ _⟩)
        | (rename_i x e; cases h; rw [ld _ e (by simp [xj])]; exact ⟨_, rfl, hl⟩)
        | (rename_i x c e; cases h; rw [ld _ e (by simp [xj])]; exact ⟨_, rfl, hl.s1 _ _⟩))
theorem xex_le' : ∀ (n y : Nat) (is : List xI) (lv lv' st : List Value) (o : xO) (w : xR × xO), xle lv lv' → xex n y is lv st o = some w → xex n y is lv' st o = some w := by
  intro n
  induction n with
  | zero => intro y is lv lv' st o w _ h; cases h
  | succ n ih =>
    intro y is lv lv' st o w hl h
    cases is with
    | nil => rw [xex] at h; cases h
    | cons e is =>
      obtain ⟨i, len, v, a, b⟩ := e
      rw [xex] at h ⊢
      generalize xgo i b = g at h ⊢
      match g, h with
      | 0, h =>
        try dsimp only at h ⊢
        cases hq : xpu i v a lv st with
        | none => rw [hq] at h; cases h
        | some q =>
          rw [hq] at h
          obtain ⟨lv2, h2, h3⟩ := xpu_le (lv1 := q.1) (st1 := q.2) hq hl
          rw [h2]
          exact ih _ _ _ _ _ _ _ h3 h
      | 1, h =>
        try dsimp only at h ⊢
        cases hq : xhp i a b st o with
        | none => rw [hq] at h; cases h
        | some q => rw [hq] at h; exact ih _ _ _ _ _ _ _ hl h
      | 2, h =>
        try dsimp only at h ⊢
        cases hq : xbr i a st with
        | none => rw [hq] at h; cases h
        | some q =>
          rw [hq] at h
          obtain ⟨c, t, s'⟩ := q
          cases c with
          | true => exact ih _ _ _ _ _ _ _ hl h
          | false => exact ih _ _ _ _ _ _ _ hl h
      | 3, h => exact h
      | 4, h => exact h
      | k + 5, h =>
        try dsimp only at h ⊢
        cases hq : xtk (xnr v) [] st with
        | none => rw [hq] at h; cases h
        | some q =>
          rw [hq] at h
          try dsimp only at h ⊢
          cases hb : (xrc b o q.1 && (Nat.ble (xsum q.2) 8 && Nat.ble (xsl q.1).length (xml a))) with
          | false => rw [hb] at h; cases h
          | true =>
            rw [hb] at h
            try dsimp only at h ⊢
            cases hw : xex n a (xbk a 0) (xen (xml a) q.1) [] o with
            | none => rw [hw] at h; cases h
            | some w' =>
              rw [hw] at h
              obtain ⟨r, o'⟩ := w'
              cases r with
              | inl r => exact ih _ _ _ _ _ _ _ hl h
              | inr E =>
                try dsimp only at h ⊢
                cases hf : xfn (xhd y) E with
                | none => rw [hf] at h; exact h
                | some hd => rw [hf] at h; exact ih _ _ _ _ _ _ _ (hl.s1 _ _) h
def xlw : List Value → List Value → Prop
  | [], _ => True
  | v :: r, l => match l with
    | [] => False
    | w :: r' => (v = xj ∨ v = w) ∧ xlw r r'
theorem xlw.le : ∀ (lv lv' : List Value), xlw lv lv' → xle lv lv' := by
  intro lv
  induction lv with
  | nil => intro lv' _; exact ⟨Nat.zero_le _, fun i h => absurd (xld_none (Nat.zero_le i)) h⟩
  | cons v r ih =>
    intro lv' h
    cases lv' with
    | nil => exact h.elim
    | cons w r' =>
      obtain ⟨h1, h2⟩ := h
      obtain ⟨k1, k2⟩ := ih r' h2
      refine ⟨Nat.succ_le_succ k1, fun i hi => ?_⟩
      cases i with
      | zero =>
        rcases h1 with h1 | h1
        · exact absurd h1 hi
        · exact h1.symm
      | succ i => exact k2 i hi
section RWmore
variable {Q : xR → xO → Prop} {y : Nat} {is : List xI} {lv st : List Value} {o : xO} {len a b : Nat} {v : Value}
theorem RW.weak {lv0 : List Value} (h : xlw lv0 lv) (k : RW Q y is lv0 st o) : RW Q y is lv st o := by
  obtain ⟨n, r, o', h1, h2⟩ := k
  exact ⟨n, r, o', xex_le' _ _ _ _ _ _ _ _ (xlw.le _ _ h) h1, h2⟩
theorem RW.gf {ix r : Nat} {w : Value} {s : List Value} (hk : xk o r = (3, a)) (hv : xf o r b = w) (k : RW Q y is lv (w :: s) o) : RW Q y ((.getfield ix, len, v, a, b) :: is) lv (.ref r :: s) o :=
  RW.hp rfl (by unfold xhp; dsimp only; rw [if_pos hk, hv]) k
theorem RW.pf {ix r : Nat} {w : Value} {s : List Value} (hk : xk o r = (3, a)) (hn : narrow (xft a b) w = w) (hf : fits (xft a b) w = true) (k : RW Q y is lv s (xpf o r b w)) : RW Q y ((.putfield ix, len, v, a, b) :: is) lv (w :: .ref r :: s) o :=
  RW.hp rfl (by unfold xhp; dsimp only; rw [if_pos ⟨hk, hn, hf⟩]) k
theorem xin_of {j : Int32} {k n : Nat} (hj : j.toInt = (k : Int)) (hk : k < n) : ¬ (j < 0 ∨ n ≤ j.toNatClampNeg) ∧ j.toNatClampNeg = k := by
  have h1 : j.toNatClampNeg = k := by
    show j.toInt.toNat = k
    rw [hj]; rfl
  refine ⟨fun h => ?_, h1⟩
  rcases h with h | h
  · rw [Int32.lt_iff_toInt_lt, hj] at h
    have : (0 : Int32).toInt = 0 := rfl
    omega
  · omega
theorem RW.ia {r k n : Nat} {j : Int32} {s : List Value} (hk : xk o r = (1, n)) (hj : j.toInt = (k : Int)) (hn : k < n) (kk : RW Q y is lv (.int (xi o r k) :: s) o) : RW Q y ((.iaload, len, v, a, b) :: is) lv (.int j :: .ref r :: s) o := by
  obtain ⟨h1, h2⟩ := xin_of hj hn
  exact RW.hp rfl (by unfold xhp; dsimp only; rw [hk, if_pos ⟨Or.inl rfl, h1⟩, h2]) kk
theorem RW.ist {r k n : Nat} {j x : Int32} {s : List Value} (hk : xk o r = (1, n)) (hj : j.toInt = (k : Int)) (hn : k < n) (kk : RW Q y is lv s (xpi o r k x)) : RW Q y ((.iastore, len, v, a, b) :: is) lv (.int x :: .int j :: .ref r :: s) o := by
  obtain ⟨h1, h2⟩ := xin_of hj hn
  exact RW.hp rfl (by unfold xhp; dsimp only; rw [hk, if_pos ⟨rfl, h1⟩, h2]) kk
theorem RW.al {r n : Nat} {s : List Value} (hk : xk o r = (1, n)) (kk : RW Q y is lv (.int (Int32.ofNat n) :: s) o) : RW Q y ((.arraylength, len, v, a, b) :: is) lv (.ref r :: s) o :=
  RW.hp rfl (by unfold xhp; dsimp only; rw [hk, if_pos (Or.inl rfl)]) kk
end RWmore
/-! contracts: an answer and the heap as it was; an answer and a heap -/
def Cp (y : Nat) (args : List Value) (o : xO) (v : Value) : Prop := Ct y args o (fun r o' => r = .inl (some v) ∧ o' = o)
def Cv (y : Nat) (args : List Value) (o : xO) (P : xO → Prop) : Prop := Ct y args o (fun r o' => r = .inl none ∧ P o')
def Cq (y : Nat) (args : List Value) (o : xO) (P : Value → xO → Prop) : Prop := Ct y args o (fun r o' => ∃ v, r = .inl (some v) ∧ P v o')
section RWcalls
variable {Q : xR → xO → Prop} {y : Nat} {is : List xI} {lv st : List Value} {o : xO} {i : Instr} {len a b : Nat} {v : Value}
theorem RW.cp {w : Value} {args rest : List Value} (hg : xgo i b = 5) (h1 : xtk (xnr v) [] st = some (args, rest)) (h2 : xrc b o args = true) (h3 : Nat.ble (xsum rest) 8 = true) (h4 : Nat.ble (xsl args).length (xml a) = true) (hc : Cp a args o w) (k : RW Q y is lv (w :: rest) o) : RW Q y ((i, len, v, a, b) :: is) lv st o :=
  RW.ca args rest hg h1 h2 h3 h4 hc (fun r o' h => by obtain ⟨rfl, rfl⟩ := h; exact k)
theorem RW.cv {P : xO → Prop} {args rest : List Value} (hg : xgo i b = 5) (h1 : xtk (xnr v) [] st = some (args, rest)) (h2 : xrc b o args = true) (h3 : Nat.ble (xsum rest) 8 = true) (h4 : Nat.ble (xsl args).length (xml a) = true) (hc : Cv a args o P) (k : ∀ o', P o' → RW Q y is lv rest o') : RW Q y ((i, len, v, a, b) :: is) lv st o :=
  RW.ca args rest hg h1 h2 h3 h4 hc (fun r o' h => by obtain ⟨rfl, h⟩ := h; exact k o' h)
theorem RW.cq {P : Value → xO → Prop} {args rest : List Value} (hg : xgo i b = 5) (h1 : xtk (xnr v) [] st = some (args, rest)) (h2 : xrc b o args = true) (h3 : Nat.ble (xsum rest) 8 = true) (h4 : Nat.ble (xsl args).length (xml a) = true) (hc : Cq a args o P) (k : ∀ w o', P w o' → RW Q y is lv (w :: rest) o') : RW Q y ((i, len, v, a, b) :: is) lv st o :=
  RW.ca args rest hg h1 h2 h3 h4 hc (fun r o' h => by obtain ⟨w, rfl, h⟩ := h; exact k w o' h)
end RWcalls
theorem xrc_v {b r c : Nat} {o : xO} {As : List Value} (hb : b % 10 = 1) (hc : b / 10 = c) (hk : xk o r = (3, c)) : xrc b o (.ref r :: As) = true := by
  unfold xrc
  rw [hb, hc]
  exact decide_eq_true hk
