/-! WHAT THE ABSTRACT MACHINE DOES, THE REAL ONE DOES. -/
def xnwk (w : Jvm.Cond) : Bool := match w with
  | .methodLinkNest _ _ _ _ => true
  | .castable _ _ => true
  | .declares _ => true
  | _ => false
theorem xnwk_all : xNW.all xnwk = true := by decide +kernel
theorem xKs.warm {g : xG} {z0 : Nat} {u U : State} (h : xKs g z0 u) (hW : u.WarmedH U.vm) (hz : z0 ≤ U.heap.size) (hk : ∀ a : Nat, a < u.heap.size → ¬ z0 ≤ a → U.heap[a]? = u.heap[a]?) : xKs g z0 U := by
  obtain ⟨h1, h2, h3, h4, h5, ⟨h6, h7⟩, h8, h9, h10⟩ := h
  refine ⟨va_K.moved hW.alike h1, State.isArrayOf_alike hW.alike h2, va_AO.moved hW.alike h3, fun w hw => ?_, fun t ht => ?_, ⟨vx_Zq.moved hW.alike (h6.kept hk), vx_Zq.moved hW.alike (h7.kept hk)⟩, hz, va_Nc.moved hW.alike h9, va_Nc.moved hW.alike h10⟩
  · have hf := List.all_eq_true.mp xnwk_all w hw
    have hw' := h4 w hw
    cases w with
    | methodLinkNest a i x hh => exact va_Nw.warmM hW hw'
    | castable C T => exact va_Nw.warmC hW hw'
    | declares x => exact va_Nw.warmD hW hw'
    | _ => cases hf
  · obtain ⟨sa, hsa⟩ := h5 t ht
    exact ⟨sa, vk_R.warm hW hsa⟩
theorem xlk_ok {P : Nat → List xI → Bool} (h0 : ∀ t, P t [] = true) : ∀ (L : List (Nat × List xI)), L.all (fun q => P q.1 q.2) = true → ∀ t, P t (xlk L t) = true := by
  intro L
  induction L with
  | nil => intro _ t; exact h0 t
  | cons q r ih =>
    intro h t
    rw [List.all_cons, Bool.and_eq_true] at h
    rw [xlk]
    cases hb : Nat.beq q.1 t with
    | true =>
      rw [Nat.eq_of_beq_eq_true hb] at h
      exact h.1
    | false => exact ih h.2 t
theorem xbk_ok {y : Nat} (h : xchk y = true) (t : Nat) : xokl y t (xbk y t) = true := by
  unfold xchk at h
  simp only [Bool.and_eq_true] at h
  exact xlk_ok (P := fun t is => xokl y t is) (fun _ => rfl) _ h.1.1.1.2 t
theorem xln_ok {y : Nat} (h : xchk y = true) : (xln y).all (xlok y) = true := by
  unfold xchk at h
  simp only [Bool.and_eq_true] at h
  exact h.1.1.1.1.1
theorem xtk_spec : ∀ (k : Nat) (acc st a r : List Value), xtk k acc st = some (a, r) → ∃ b, b.length = k ∧ a = b ++ acc ∧ st = b.reverse ++ r := by
  intro k
  induction k with
  | zero => intro acc st a r h; cases h; exact ⟨[], rfl, rfl, rfl⟩
  | succ k ih =>
    intro acc st a r h
    cases st with
    | nil => cases h
    | cons v s =>
      obtain ⟨b, h1, h2, h3⟩ := ih (v :: acc) s a r h
      refine ⟨b ++ [v], by simp [h1], by simp [h2], ?_⟩
      rw [h3]; simp
theorem xhp_cnt {i : Instr} {a b : Nat} {st st' : List Value} {o o' : xO} (h : xhp i a b st o = some (st', o')) : xc o ≤ xc o' ∧ xn o ≤ xn o' := by
  have put1 : ∀ r k v, xc o ≤ xc (xpf o r k v) ∧ xn o ≤ xn (xpf o r k v) := fun _ _ _ => ⟨Nat.le_refl _, Nat.le_refl _⟩
  have put2 : ∀ r k v, xc o ≤ xc (xpi o r k v) ∧ xn o ≤ xn (xpi o r k v) := fun _ _ _ => ⟨Nat.le_refl _, Nat.le_refl _⟩
  have mk : ∀ kd n fs, xc o ≤ xc (xmk o kd n fs) ∧ xn o ≤ xn (xmk o kd n fs) := fun _ _ _ => ⟨Nat.le_add_right _ _, Nat.le_add_right _ _⟩
  unfold xhp at h
  split at h <;> (repeat' split at h) <;> first | (cases h; done) | (cases h; exact ⟨Nat.le_refl _, Nat.le_refl _⟩) | (cases h; exact put1 _ _ _) | (cases h; exact put2 _ _ _) | (cases h; exact mk _ _ _)
theorem xex_cnt : ∀ (n y : Nat) (is : List xI) (lv st : List Value) (o : xO) (r : xR) (o' : xO), xex n y is lv st o = some (r, o') → xc o ≤ xc o' ∧ xn o ≤ xn o' := by
  intro n
  induction n with
  | zero => intro y is lv st o r o' h; cases h
  | succ n ih =>
    intro y is lv st o r o' h
    cases is with
    | nil => rw [xex] at h; cases h
    | cons e is =>
      obtain ⟨i, len, v, a, b⟩ := e
      rw [xex] at h
      generalize hg : xgo i b = g at h
      match g, h with
      | 0, h =>
        try dsimp only at h
        cases hq : xpu i v a lv st with
        | none => rw [hq] at h; cases h
        | some q => rw [hq] at h; exact ih _ _ _ _ _ _ _ h
      | 1, h =>
        try dsimp only at h
        cases hq : xhp i a b st o with
        | none => rw [hq] at h; cases h
        | some q =>
          rw [hq] at h
          have h1 := xhp_cnt (st' := q.1) (o' := q.2) hq
          have h2 := ih _ _ _ _ _ _ _ h
          exact ⟨Nat.le_trans h1.1 h2.1, Nat.le_trans h1.2 h2.2⟩
      | 2, h =>
        try dsimp only at h
        cases hq : xbr i a st with
        | none => rw [hq] at h; cases h
        | some q =>
          rw [hq] at h
          obtain ⟨c, t, s'⟩ := q
          cases c with
          | true => exact ih _ _ _ _ _ _ _ h
          | false => exact ih _ _ _ _ _ _ _ h
      | 3, h =>
        try dsimp only at h
        cases hq : xre (xrt y) i st with
        | none => rw [hq] at h; cases h
        | some q => rw [hq] at h; cases h; exact ⟨Nat.le_refl _, Nat.le_refl _⟩
      | 4, h =>
        try dsimp only at h
        cases hq : xem st with
        | false => rw [hq] at h; cases h
        | true => rw [hq] at h; cases h; exact ⟨Nat.le_add_right _ _, Nat.le_add_right _ _⟩
      | k + 5, h =>
        try dsimp only at h
        cases hq : xtk (xnr v) [] st with
        | none => rw [hq] at h; cases h
        | some q =>
          rw [hq] at h
          try dsimp only at h
          cases hb : (xrc b o q.1 && (Nat.ble (xsum q.2) 8 && Nat.ble (xsl q.1).length (xml a))) with
          | false => rw [hb] at h; cases h
          | true =>
            rw [hb] at h
            try dsimp only at h
            cases hw : xex n a (xbk a 0) (xen (xml a) q.1) [] o with
            | none => rw [hw] at h; cases h
            | some w' =>
              rw [hw] at h
              obtain ⟨r1, o1⟩ := w'
              have h1 := ih _ _ _ _ _ _ _ hw
              cases r1 with
              | inl r1 =>
                have h2 := ih _ _ _ _ _ _ _ h
                exact ⟨Nat.le_trans h1.1 h2.1, Nat.le_trans h1.2 h2.2⟩
              | inr E =>
                try dsimp only at h
                cases hf : xfn (xhd y) E with
                | none =>
                  rw [hf] at h
                  try dsimp only at h
                  cases he : xem2 (xhd y) with
                  | true => rw [he] at h; cases h; exact h1
                  | false => rw [he] at h; cases h
                | some hd =>
                  rw [hf] at h
                  have h2 := ih _ _ _ _ _ _ _ h
                  exact ⟨Nat.le_trans h1.1 h2.1, Nat.le_trans h1.2 h2.2⟩
def xQc (g : xG) (z0 : Nat) (r : xR) (o' : xO) : Array Value → State → Outcome → State → Prop := fun _ st oc t => ∃ v, r = .inl v ∧ oc = .returned v ∧ xH g z0 o' t.heap ∧ va_F (xA z0) st t
def xXC (g : xG) (z0 : Nat) (r : xR) (o' : xO) : String → State → State → Prop := fun E st t => ∃ k, r = .inr k ∧ xecl[k]? = some E ∧ xH g z0 o' t.heap ∧ va_F (xA z0) st t
def xPc (g : xG) (z0 : Nat) (args : List Value) (o : xO) : Array Value → State → Prop := va_Pc args (fun U => xH g z0 o U.heap ∧ xKs g z0 U)
def xws (y : Nat) : List Jvm.Cond := xcode y :: xT
def xrm (y mc ms : Nat) : Room := { frames := xfr y, cells := mc, slots := ms, locals := xlo y }
def xCx (g : xG) (z0 y : Nat) (p : Program) (R : Room) (s : State) (m : MethodId) (args : Array Value) (meth : Method) (c : Code) : Prop :=
  p.tables.exec = Jvm.exec ∧ c.code = xby y ∧ c.maxLocals = xml y ∧ s.vm.findClass (xow y) = some m.cls ∧ (∀ w ∈ xT, w.before args s = true) ∧ meth.sig.returnType = xrt y ∧ meth.locks = false ∧ c.exceptionTable.toList = tableOf (xhh y) ∧ meth.name = (xnm y).name ∧ xfr y ≤ R.frames ∧ xlo y ≤ R.locals ∧ xKs g z0 s
def xS (l : Launch) (g : xG) (z0 n : Nat) : Prop := ∀ (y : Nat) (is : List xI) (lv st : List Value) (o : xO) (r : xR) (o' : xO), y < 155 → xex n y is lv st o = some (r, o') → ∀ pc, xokl y pc is = true →
  ∀ (p : Program) (e : Env) (R : Room) (s : State) (m : MethodId) (args : Array Value) (below : List Frame) (meth : Method) (c : Code), xCx g z0 y p R s m args meth c →
  ∀ (H : Heap) (locs : List Loc) (cells slots mc ms : Nat) (ls : Array Slot), xH g z0 o H → va_S (xA z0) s.heap H locs → xlh ls (xml y) lv → cells + xc o' = mc + xc o → slots + xn o' = ms + xn o → mc ≤ R.cells → ms ≤ R.slots →
  W p l e R s m args below meth c H locs cells slots (vx_MQ below (xQc g z0 r o') (xXC g z0 r o') args s mc ms (xA z0)) (F0 m pc ls st)
theorem xblind {g : xG} {z0 : Nat} {args : List Value} {o : xO} : FrameBlind (xPc g z0 args o) := fun a U gf mk q => by
  obtain ⟨q0, q1, q2⟩ := q
  exact ⟨q0, q1, q2.warm (U := U.calling gf mk a) (State.WarmedH.refl U) q2.2.2.2.2.2.2.1 (fun _ _ _ => rfl)⟩
theorem xcs {y : Nat} (h : xhh y = []) : xcode y = .code (xnm y) (xby y) (xml y) (xrt y) := by unfold xcode; rw [h]
theorem xcw {y : Nat} (h : ¬ xhh y = []) : xcode y = .codeWith (xnm y) (xby y) (xml y) (xrt y) (xhh y) := by
  unfold xcode
  cases hh : xhh y with
  | nil => exact absurd hh h
  | cons a t => rfl
/-- a method's contract, its body being walked -/
theorem xmet {l : Launch} {g : xG} {z0 n : Nat} (hall : ∀ y, y < 155 → xchk y = true) (ih : xS l g z0 n) {y : Nat} {args : List Value} {o o' : xO} {r : xR} (hy : y < 154) (h : xex n y (xbk y 0) (xen (xml y) args) [] o = some (r, o')) (hlen : (xsl args).length ≤ xml y) (hpl : plainName (xow y) = true) :
    vx_Met l (xnm y) (xws y) (xrm y (xc o' - xc o) (xn o' - xn o)) (xPc g z0 args o) (xQc g z0 r o') (xXC g z0 r o') (xc o' - xc o) (xn o' - xn o) (xA z0) := by
  have hcnt := xex_cnt _ _ _ _ _ _ _ _ h
  have body : ∀ p e s m args1 below meth c s₁, BodyLoose p l (xnm y) (headSpec (xws y) (xrm y (xc o' - xc o) (xn o' - xn o))) (xby y) (xml y) (xrt y) e s m args1 below meth c s₁ → c.maxLocals = xml y → c.exceptionTable.toList = tableOf (xhh y) → xPc g z0 args o args1 s →
      W p l e (xrm y (xc o' - xc o) (xn o' - xn o)) s m args1 below meth c s.heap [] 0 0 (vx_MQ below (xQc g z0 r o') (xXC g z0 r o') args1 s (xc o' - xc o) (xn o' - xn o) (xA z0)) (entryFrame m args1 (xml y)) := by
    intro p e s m args1 below meth c s₁ B hml htab hP
    obtain ⟨rfl, hH, hKs⟩ := hP
    have hts := atoms_spec (ws := xws y) B.pre
    rw [lg_entry_eq]
    exact ih y _ _ _ o r o' (by omega) h 0 (xbk_ok (hall y (by omega)) 0) p e _ s m _ below meth c
      ⟨B.exec, B.bytes, hml, findClass_of_methodNamed B.named, fun w hw => hts w (List.mem_cons_of_mem _ hw), B.returns, B.notSynchronized, htab, (name_of_methodNamed B.named B.method).1, Nat.le_refl _, Nat.le_refl _, hKs⟩
      s.heap [] 0 0 _ _ _ hH va_S.rf (xen_ok hlen) (by omega) (by omega) (Nat.le_refl _) (Nat.le_refl _)
  by_cases hh : xhh y = []
  · refine vx_ofW (cc := xby y) (maxL := xml y) (ret := xrt y) (ws' := xT) hpl (by unfold xws; rw [xcs hh]) ?_
    intro p e s m args1 below meth c s₁ B hml htab hP
    refine body p e s m args1 below meth c s₁ B hml ?_ hP
    rw [hh]
    exact List.eq_nil_iff_forall_not_mem.mpr htab
  · refine vx_ofWH (cc := xby y) (maxL := xml y) (ret := xrt y) (hh := xhh y) (ws' := xT) hpl (by unfold xws; rw [xcw hh]) ?_
    intro p e s m args1 below meth c s₁ B hml hP
    refine body p e s m args1 below meth c s₁ B hml ?_ hP
    have hts := atoms_spec (ws := xws y) B.pre
    exact vx_table (x := xnm y) B (hts _ (by unfold xws; rw [xcw hh]; exact List.mem_cons_self))
