/-! THE CLAIM OUT OF A RUN OF THE ABSTRACT MACHINE. -/
def R_law : String := "WholeNumbersLaw"
def lw_At (p : Program) (s : State) (m : MethodId) (meth : Method) (c : Code) (b L : Nat) (xs : Nat → Int32) : Prop :=
  p.tables.exec = Jvm.exec ∧ c.code = code ∧ meth.sig.returnType = ret ∧ c.maxLocals = 8 ∧ s.vm.findClass R_law = some m.cls ∧ (∀ w ∈ lw_tbl, w.before #[Value.ref b] s = true) ∧ va_X b L xs s s.heap ∧ b < s.heap.size ∧ meth.locks = false ∧ (Jvm.Cond.and given_1 narrow_1).before #[Value.ref b] s = true
/-- the heap at the law's entry: the script alone -/
def xo0 (b L sz : Nat) (xs : Nat → Int32) : xO := ((fun a => if a = b then (2, L) else (0, 0)), (fun _ => xs), (fun _ _ => .null), sz, 0, 0)
theorem xstr {own : String} {k : Nat} {args : Array Value} {s : State} (h : (Jvm.Cond.exactly (.string own k) "java/lang/String").before args s = true) : ∃ a, (Term.string own k).eval args s none [] s = some (.ref a) := by
  obtain ⟨a, _, _, _, h1, -⟩ := Cond.exactly_spec h
  exact ⟨a, h1⟩
theorem xinst : (List.range 10).all (fun c => match xcl[c]? with | some q => decide (Jvm.Cond.instantiable q.1 q.2.2 ∈ lw_tbl) | none => false) = true := by decide +kernel
theorem xnw_in : xNW.all (fun w => decide (w ∈ lw_tbl) && w.onTables) = true := by decide +kernel
theorem xstr_in : xthr.all (fun t => decide (Jvm.Cond.stringRef t.1 t.2.2.2.1 t.2.2.2.2.1 ∈ lw_tbl) && decide (Jvm.Cond.exactly (.string t.1 t.2.2.2.1) "java/lang/String" ∈ flatC (Jvm.Cond.and given_1 narrow_1))) = true := by decide +kernel
theorem xks_start {p : Program} {s : State} {m : MethodId} {meth : Method} {c : Code} {b L : Nat} {xs : Nat → Int32} (C0 : lw_At p s m meth c b L xs) : ∃ g : xG, xKs g s.heap.size s ∧ s.heap[b]? = some g.2.2.2.2 ∧ g.2.2.2.2.slots.size = L ∧ g.2.2.2.2.vm ≠ .unknown ∧ ∀ j, j < L → g.2.2.2.2.slots[j]? = some (.int (xs j)) := by
  obtain ⟨hx, hb, hr, hml, hown, hts, ⟨scr, hX1, hX2, hX3, hX4, hX5⟩, hbl, hlocks, hgv⟩ := C0
  have hfl := flat_of_before _ hgv
  have hD : ∀ c : Nat, ∃ d : ClassId × (Nat → Nat), ∀ q, xcl[c]? = some q → u_Kn s q.1 q.2.1 q.2.2 d.1 d.2 := by
    intro c
    cases hq : xcl[c]? with
    | none => exact ⟨(0, fun _ => 0), fun q h => by cases h⟩
    | some q =>
      have hc : c < 10 := (List.getElem?_eq_some_iff.mp hq).1
      have h1 := List.all_eq_true.mp xinst c (List.mem_range.mpr hc)
      rw [hq] at h1
      obtain ⟨cC, iS, hK⟩ := u_known (ws := xT) (fun w hw => hts w (List.mem_filter.mp hw).1) (xcok_of hq).1 (hts _ (of_decide_eq_true h1))
      exact ⟨(cC, iS), fun q' h => by cases h; exact hK⟩
  obtain ⟨cI, kI, compI, i1, i2, i3⟩ := Cond.arrayClass_spec (hts (.arrayClass .int) (List.mem_filter.mp xarrI).1)
  obtain ⟨cL, kL, compL, l1, l2, l3⟩ := Cond.arrayClass_spec (hts (.arrayClass .long) (List.mem_filter.mp xarrL).1)
  have hao : (Jvm.Cond.arrayOver (.object "WholeNumbers$Whole")).before #[Value.ref b] s = true := hts _ (by decide +kernel)
  obtain ⟨compW, cW, kW, w1, -, w3, w4, w5⟩ := Cond.arrayOver_spec hao
  refine ⟨((fun c => (Classical.choose (hD c)).1, fun c => (Classical.choose (hD c)).2), cI, cL, cW, scr), ⟨⟨fun c q hq => Classical.choose_spec (hD c) q hq, ?_⟩, hX2, va_AO.of hao, fun w hw => ?_, fun t ht => ?_, ⟨?_, ?_⟩, Nat.le_refl _, va_Nc.of (hfl _ (by decide +kernel)), va_Nc.of (hfl _ (by decide +kernel))⟩, hX1, hX4, hX3, hX5⟩
  · intro k q hk
    match k, hk with
    | 0, hk => cases hk; exact ⟨fun n z => ⟨fun k h => (by cases h), kI, i2, compI, i3⟩, i1⟩
    | 1, hk => cases hk; exact ⟨fun n z => ⟨fun k h => (by cases h), kL, l2, compL, l3⟩, l1⟩
    | 2, hk => cases hk; exact ⟨fun n z => ⟨fun k h => (by cases h), kW, w3, compW, w4⟩, kW, compW, w3, w4, w1, w5⟩
    | n + 3, hk => cases hk
  · have h1 := List.all_eq_true.mp xnw_in w hw
    rw [Bool.and_eq_true, decide_eq_true_eq] at h1
    exact va_Nw.of h1.2 (hts _ h1.1)
  · have h1 := List.all_eq_true.mp xstr_in t ht
    rw [Bool.and_eq_true, decide_eq_true_eq, decide_eq_true_eq] at h1
    obtain ⟨a, ha⟩ := xstr (hfl _ h1.2)
    exact ⟨a, vk_R.of (hts _ h1.1) ha⟩
  · exact vx_Zqof (args := #[Value.ref b]) (hts _ (by decide +kernel)) (hts _ (by decide +kernel)) (hfl _ (by decide +kernel)) (fun a ha => Nat.not_le.mpr ha)
  · exact vx_Zqof (args := #[Value.ref b]) (hts _ (by decide +kernel)) (hts _ (by decide +kernel)) (hfl _ (by decide +kernel)) (fun a ha => Nat.not_le.mpr ha)
def lw_Q (_ : Array Value) (s : State) (o : Outcome) (t : State) : Prop := o = .returned (some (.int 1)) ∧ Framed s o t [] 600384 7277546
def lw_Z (below : List Frame) (a : Array Value) (s : State) : State → Prop := fun t => ∃ o, t.status = .running ∧ Ended t below o ∧ lw_Q a s o t
theorem xflags {l : Launch} (h : l.flags = flags0) : l.stackTraces = false := by
  unfold Launch.stackTraces
  rw [h]
  decide +kernel
/-- what is left: the law's run over the abstract machine answers 1, within the room -/
def xRuns : Prop := ∀ (b L sz : Nat) (xs : Nat → Int32), L ≤ 320 → b < sz → Ct 154 [.ref b] (xo0 b L sz xs) (fun r o' => r = .inl (some (.int 1)) ∧ xc o' ≤ 600384 ∧ xn o' ≤ 7277546)
theorem xroot (hall : ∀ y, y < 155 → xchk y = true) (hrun : xRuns) {p : Program} {e : Env} {s : State} {m : MethodId} {below : List Frame} {meth : Method} {c : Code} (l : Launch) (hflags : l.flags = flags0) {b L : Nat} {xs : Nat → Int32} (hL : L ≤ 320) (C0 : lw_At p s m meth c b L xs) (htab : c.exceptionTable.toList = []) (hname : meth.name = "law") :
    W p l e room_1 s m #[Value.ref b] below meth c s.heap [] 0 0 (lw_Z below #[Value.ref b] s) (entryFrame m ([Value.ref b] : List Value).toArray 8) := by
  obtain ⟨g, hKs, g1, g2, g3, g4⟩ := xks_start C0
  obtain ⟨hx, hb, hr, hml, hown, hts, hX, hbl, hlocks, hgv⟩ := C0
  obtain ⟨n, r, o', hex, hr1, hc1, hn1⟩ := hrun b L s.heap.size xs hL hbl
  subst hr1
  have hH : xH g s.heap.size (xo0 b L s.heap.size xs) s.heap := by
    refine ⟨Or.inl rfl, fun a => ?_⟩
    by_cases ha : a = b
    · have hk : xk (xo0 b L s.heap.size xs) a = (2, L) := if_pos ha
      rw [hk]
      refine ⟨?_, fun _ => by rw [ha]; exact hbl, fun _ h => absurd rfl h⟩
      unfold xcel
      rw [hk, ha]
      exact ⟨g1, g2, g3, g4⟩
    · have hk : xk (xo0 b L s.heap.size xs) a = (0, 0) := if_neg ha
      rw [hk]
      refine ⟨?_, fun h => absurd rfl h, fun h => absurd rfl h⟩
      unfold xcel
      rw [hk]
      trivial
  rw [lg_entry_eq]
  have hW := xsound hall (xflags hflags) n 154 _ _ _ _ _ _ (by decide) hex 0 (xbk_ok (hall 154 (by decide)) 0) p e room_1 s m #[Value.ref b] below meth c
    ⟨hx, hb, hml, hown, fun w hw => hts w (List.mem_filter.mp hw).1, hr, hlocks, htab, hname, by decide, by decide, hKs⟩
    s.heap [] 0 0 (xc o') (xn o') _ hH va_S.rf (xen_ok (vs := [Value.ref b]) (n := 8) (by show 1 ≤ 8; decide)) (by show 0 + xc o' = xc o' + 0; omega) (by show 0 + xn o' = xn o' + 0; omega) hc1 hn1
  intro T hT X
  obtain ⟨t, a1, o, b1, b2, b3⟩ := hW T hT X
  refine ⟨t, a1, o, b1, b2, ?_⟩
  rcases b3 with ⟨⟨v, hv, ho, -, -⟩, Ls, ⟨f1, f2, f3⟩, hLs⟩ | ⟨q, ho, E, ce, Ls, ⟨k, hk, -⟩, -⟩
  · cases hv
    refine ⟨ho, f1, f2, ?_⟩
    obtain ⟨q1, q2, q3, q4, q5, q6⟩ := f3.mono hc1 hn1
    refine ⟨q1, q2, q3, q4, q5, fun a cl ha => ?_⟩
    obtain ⟨c', w1, w2, w3, w4⟩ := q6 a cl ha
    refine ⟨c', w1, w2, w3, fun i _ => w4 i (fun hm => ?_)⟩
    have h1 : a < s.heap.size := (Array.getElem?_eq_some_iff.mp ha).1
    exact Nat.not_le.mpr h1 (hLs _ hm)
  · cases hk
