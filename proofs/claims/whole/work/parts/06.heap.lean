/-! THE HEAP: what the abstract heap says of the real one; its steps. -/
abbrev xG : Type := va_G × ClassId × ClassId × ClassId × Cell
def xcel (g : xG) (o : xO) (a : Nat) (H : Heap) : Prop := match (xk o a).1 with
  | 1 => H[a]? = some (arrV g.2.1 (xk o a).2 (fun j => .int (xi o a j)))
  | 2 => H[a]? = some g.2.2.2.2 ∧ g.2.2.2.2.slots.size = (xk o a).2 ∧ g.2.2.2.2.vm ≠ .unknown ∧ ∀ j, j < (xk o a).2 → g.2.2.2.2.slots[j]? = some (.int (xi o a j))
  | 3 => ∃ r : vw_C, xcl[(xk o a).2]? = some r ∧ t_OB a (g.1.1 (xk o a).2) r.2.2 (g.1.2 (xk o a).2) H (xf o a)
  | 4 => H[a]? = some (arrV g.2.2.1 (xk o a).2 (fun j => .long (xlg (xf o a j))))
  | 5 => H[a]? = some (arrV g.2.2.2.1 (xk o a).2 (fun j => xrf (xf o a j)))
  | _ => True
def xH (g : xG) (z0 : Nat) (o : xO) (H : Heap) : Prop := (xz o = H.size ∨ xz o = 0) ∧ ∀ a, xcel g o a H ∧ ((xk o a).1 ≠ 0 → a < H.size) ∧ ((xk o a).1 ≠ 0 → (xk o a).1 ≠ 2 → z0 ≤ a)
abbrev xA (z0 : Nat) : Nat → Prop := fun q => z0 ≤ q
def xKs (g : xG) (z0 : Nat) (U : State) : Prop :=
  va_K g.1 xcl [(g.2.1, .int), (g.2.2.1, .long), (g.2.2.2.1, .object "WholeNumbers$Whole")] U ∧ U.isArrayOf g.2.2.2.2 .int ∧ va_AO "WholeNumbers$Whole" U ∧ (∀ w ∈ xNW, va_Nw w U) ∧
  (∀ t ∈ xthr, ∃ sa, vk_R t.1 t.2.2.2.1 t.2.2.2.2.1 sa U) ∧ (vx_Zq Bundle.tN "UNASSIGNED_STACK" Bundle.steD (xA z0) U U.heap ∧ vx_Zq Bundle.tN "SUPPRESSED_SENTINEL" Bundle.listD (xA z0) U U.heap) ∧ z0 ≤ U.heap.size ∧
  (va_Nc "java/lang/UnsupportedOperationException" "java/lang/IllegalArgumentException" U ∧ va_Nc "java/lang/ArithmeticException" "java/lang/IllegalArgumentException" U)
def xcok (c : Nat) : Bool := match xcl[c]? with
  | none => false
  | some q => (u_ws q.1 q.2.1 q.2.2).all xW && (List.range q.2.2).all (fun k => decide (parseFieldDescriptor (q.2.1 k).2.2.1 = some (xft c k))) &&
    (List.range q.2.2).all (fun a => (List.range q.2.2).all (fun b => Nat.beq a b || decide ((q.2.1 a).2.1 ≠ (q.2.1 b).2.1))) && Nat.beq (xnf c) q.2.2
theorem xcok_all : (List.range 10).all xcok = true := by decide +kernel
theorem xcok_of {c : Nat} {q : vw_C} (h : xcl[c]? = some q) : (∀ w ∈ u_ws q.1 q.2.1 q.2.2, w ∈ xT) ∧ (∀ k, k < q.2.2 → parseFieldDescriptor (q.2.1 k).2.2.1 = some (xft c k)) ∧ (∀ a, a < q.2.2 → ∀ b, b < q.2.2 → a ≠ b → (q.2.1 a).2.1 ≠ (q.2.1 b).2.1) ∧ xnf c = q.2.2 := by
  have hc : c < 10 := by
    have := (List.getElem?_eq_some_iff.mp h).1
    exact this
  have h1 := List.all_eq_true.mp xcok_all c (List.mem_range.mpr hc)
  unfold xcok at h1
  rw [h] at h1
  simp only [Bool.and_eq_true] at h1
  obtain ⟨⟨⟨k1, k2⟩, k3⟩, k4⟩ := h1
  refine ⟨fun w hw => xW_in (List.all_eq_true.mp k1 w hw), fun k hk => of_decide_eq_true (List.all_eq_true.mp k2 k (List.mem_range.mpr hk)), fun a ha b hb hab => ?_, Nat.eq_of_beq_eq_true k4⟩
  have h2 := List.all_eq_true.mp (List.all_eq_true.mp k3 a (List.mem_range.mpr ha)) b (List.mem_range.mpr hb)
  rw [Bool.or_eq_true] at h2
  rcases h2 with h2 | h2
  · exact absurd (Nat.eq_of_beq_eq_true h2) hab
  · exact of_decide_eq_true h2
theorem xcel.kept {g : xG} {o o' : xO} {a : Nat} {H H1 : Heap} (h : xcel g o a H) (hk : xk o' a = xk o a) (hi : xi o' a = xi o a) (hf : xf o' a = xf o a) (hH : H1[a]? = H[a]?) : xcel g o' a H1 := by
  unfold xcel at h ⊢
  rw [hk, hi, hf]
  generalize (xk o a).1 = t at h ⊢
  match t, h with
  | 0, _ => trivial
  | 1, h => exact hH.trans h
  | 2, h => exact ⟨hH.trans h.1, h.2⟩
  | 3, h => obtain ⟨r, h1, h2⟩ := h; exact ⟨r, h1, h2.kept hH⟩
  | 4, h => exact hH.trans h
  | 5, h => exact hH.trans h
  | t + 6, _ => trivial
theorem xup_ne {α : Type} {f : Nat → Nat → α} {a k q : Nat} {v : α} (h : q ≠ a) : xup f a k v q = f q := by
  funext j
  unfold xup
  rw [if_neg (fun z => h z.1)]
section XHP
variable {g : xG} {z0 : Nat} {o : xO} {H H1 : Heap}
theorem xH.at1 {r n : Nat} (h : xH g z0 o H) (hk : (xk o r).1 = 1) : H[r]? = some (arrV g.2.1 (xk o r).2 (fun j => .int (xi o r j))) := by
  have h1 := (h.2 r).1
  unfold xcel at h1
  rw [hk] at h1
  exact h1
theorem xH.at2 {r : Nat} (h : xH g z0 o H) (hk : (xk o r).1 = 2) : H[r]? = some g.2.2.2.2 ∧ g.2.2.2.2.slots.size = (xk o r).2 ∧ g.2.2.2.2.vm ≠ .unknown ∧ ∀ j, j < (xk o r).2 → g.2.2.2.2.slots[j]? = some (.int (xi o r j)) := by
  have h1 := (h.2 r).1
  unfold xcel at h1
  rw [hk] at h1
  exact h1
theorem xH.at3 {r a : Nat} (h : xH g z0 o H) (hk : xk o r = (3, a)) : ∃ q : vw_C, xcl[a]? = some q ∧ t_OB r (g.1.1 a) q.2.2 (g.1.2 a) H (xf o r) := by
  have h1 := (h.2 r).1
  unfold xcel at h1
  rw [hk] at h1
  exact h1
theorem xH.at4 {r : Nat} (h : xH g z0 o H) (hk : (xk o r).1 = 4) : H[r]? = some (arrV g.2.2.1 (xk o r).2 (fun j => .long (xlg (xf o r j)))) := by
  have h1 := (h.2 r).1
  unfold xcel at h1
  rw [hk] at h1
  exact h1
theorem xH.at5 {r : Nat} (h : xH g z0 o H) (hk : (xk o r).1 = 5) : H[r]? = some (arrV g.2.2.2.1 (xk o r).2 (fun j => xrf (xf o r j))) := by
  have h1 := (h.2 r).1
  unfold xcel at h1
  rw [hk] at h1
  exact h1
/-- one cell anew -/
theorem xH.put {o' : xO} {r : Nat} (h : xH g z0 o H) (hz : xz o' = xz o) (hk : xk o' = xk o) (hi : ∀ q, q ≠ r → xi o' q = xi o q) (hf : ∀ q, q ≠ r → xf o' q = xf o q) (z : H1.size = H.size) (oq : ∀ q : Nat, q ≠ r → H1[q]? = H[q]?) (hr : xcel g o' r H1) : xH g z0 o' H1 := by
  refine ⟨by rw [hz, z]; exact h.1, fun q => ⟨?_, by rw [hk, z]; exact (h.2 q).2.1, by rw [hk]; exact (h.2 q).2.2⟩⟩
  by_cases hq : q = r
  · rw [hq]; exact hr
  · exact (h.2 q).1.kept (by rw [hk]) (hi q hq) (hf q hq) (oq q hq)
/-- a cell made -/
theorem xH.mk {kd : Nat × Nat} {n : Nat} {fs : Nat → Value} (h : xH g z0 o H) (hz : ¬ xz o = 0) (hz0 : z0 ≤ H.size) (z : H1.size = H.size + 1) (oq : ∀ q : Nat, q < H.size → H1[q]? = H[q]?) (hr : xcel g (xmk o kd n fs) H.size H1) : xH g z0 (xmk o kd n fs) H1 := by
  have hz := h.1.resolve_right hz
  have hz' : o.2.2.2.1 = H.size := hz
  refine ⟨Or.inl (by show o.2.2.2.1 + 1 = _; rw [hz', z]), fun q => ?_⟩
  by_cases hq : q = H.size
  · rw [hq]
    exact ⟨hr, fun _ => by omega, fun _ _ => hz0⟩
  · have e1 : xk (xmk o kd n fs) q = xk o q := by show (if q = o.2.2.2.1 then kd else o.1 q) = _; rw [hz', if_neg hq]; rfl
    have e2 : xi (xmk o kd n fs) q = xi o q := by show (if q = o.2.2.2.1 then _ else o.2.1 q) = _; rw [hz', if_neg hq]; rfl
    have e3 : xf (xmk o kd n fs) q = xf o q := by show (if q = o.2.2.2.1 then fs else o.2.2.1 q) = _; rw [hz', if_neg hq]; rfl
    refine ⟨?_, fun hn => ?_, fun hn h2 => ?_⟩
    · by_cases h0 : (xk o q).1 = 0
      · unfold xcel; rw [e1, h0]; trivial
      · exact (h.2 q).1.kept e1 e2 e3 (oq q ((h.2 q).2.1 h0))
    · rw [e1] at hn; have := (h.2 q).2.1 hn; omega
    · rw [e1] at hn h2; exact (h.2 q).2.2 hn h2
end XHP
section XHP2
variable {p : Program} {l : Launch} {e : Env} {R : Room} {s : State} {m : MethodId} {args : Array Value} {below : List Frame} {meth : Method} {c : Code} {H : Heap} {locs : List Loc} {cells slots : Nat} {Q : State → Prop}
variable {ls : Array Slot} {y pc len a b : Nat} {v : Value} {st st' : List Value} {g : xG} {z0 : Nat} {o o' : xO}
theorem xlink {ix : Nat} (hts : ∀ w ∈ xT, w.before args s = true) (hck : (xln y).all (xlok y) = true) (hm : (0, ix, a, b) ∈ xln y) {q : vw_C} (hq : xcl[a]? = some q) : b < q.2.2 ∧ (Jvm.Cond.fieldLink (xow y) ix (q.2.1 b).1 (q.2.1 b).2.1 (q.2.1 b).2.2.1).before args s = true := by
  have h1 := List.all_eq_true.mp hck _ hm
  unfold xlok at h1
  dsimp only at h1
  rw [hq] at h1
  simp only [Bool.and_eq_true] at h1
  exact ⟨Nat.le_of_ble_eq_true h1.1, hts _ (xW_in h1.2)⟩
theorem xgetf {ix r : Nat} {rest : List Value} (hx : p.tables.exec = Jvm.exec) (hb : c.code = xby y) (hown : s.vm.findClass (xow y) = some m.cls) (hts : ∀ w ∈ xT, w.before args s = true) (hck : (xln y).all (xlok y) = true)
    (hd : decode (xby y) pc = .ok (.getfield ix, 3)) (hm : (0, ix, a, b) ∈ xln y) (hKs : xKs g z0 s) (hH : xH g z0 o H) (hk : xk o r = (3, a))
    (k : W p l e R s m args below meth c H locs cells slots Q (F0 m (pc + 3) ls (xf o r b :: rest))) : W p l e R s m args below meth c H locs cells slots Q (F0 m pc ls (.ref r :: rest)) := by
  obtain ⟨q, hq, cell, q1, q2, q3, q4⟩ := hH.at3 hk
  obtain ⟨hbN, hlink⟩ := xlink hts hck hm hq
  obtain ⟨hin, hty, hnm, -⟩ := xcok_of hq
  obtain ⟨hS, hfc, kC, hkC, hkind⟩ := hKs.1.1 a _ hq
  obtain ⟨cf, kf, fi, f, hi, hsl⟩ := hS b hbN
  exact W.getf hx hb hown hlink hi (u_facts hfc hkC (u_lays hts hin hbN) hi).1 q1 (by rw [q3]; exact fun h => by cases h) (v := xf o r b) (by rw [hsl]; exact q4 b hbN) rfl rfl hd k
theorem xputf {ix r : Nat} {rest : List Value} {v : Value} (hx : p.tables.exec = Jvm.exec) (hb : c.code = xby y) (hown : s.vm.findClass (xow y) = some m.cls) (hts : ∀ w ∈ xT, w.before args s = true) (hck : (xln y).all (xlok y) = true) (hmn : meth.name = (xnm y).name)
    (hd : decode (xby y) pc = .ok (.putfield ix, 3)) (hm : (0, ix, a, b) ∈ xln y) (hfin : ∀ q, xcl[a]? = some q → (q.2.1 b).2.2.2 = true → (xnm y).name = "<init>" ∧ (q.2.1 b).1 = xow y) (hKs : xKs g z0 s) (hH : xH g z0 o H) (hS0 : va_S (xA z0) s.heap H locs) (hk : xk o r = (3, a))
    (hn : narrow (xft a b) v = v) (hfit : fits (xft a b) v = true)
    (k : ∀ (H1 : Heap) (locs1 : List Loc), xH g z0 (xpf o r b v) H1 → va_S (xA z0) s.heap H1 locs1 → W p l e R s m args below meth c H1 locs1 cells slots Q (F0 m (pc + 3) ls rest)) : W p l e R s m args below meth c H locs cells slots Q (F0 m pc ls (v :: .ref r :: rest)) := by
  obtain ⟨q, hq, cell, q1, q2, q3, q4⟩ := hH.at3 hk
  obtain ⟨hbN, hlink⟩ := xlink hts hck hm hq
  obtain ⟨hin, hty, hnm, -⟩ := xcok_of hq
  have hap := va_apart (own := xow y) (D := g.1) hts hin (xft a) hty hnm hKs.1 hq
  obtain ⟨hS, hfc, kC, hkC, hkind⟩ := hKs.1.1 a _ hq
  obtain ⟨cf, kf, fi, f, hi, hsl⟩ := hS b hbN
  have hst := (u_facts hfc hkC (u_lays hts hin hbN) hi).1
  have hz : z0 ≤ r := (hH.2 r).2.2 (by rw [hk]; exact (by decide : ¬ 3 = 0)) (by rw [hk]; exact (by decide : ¬ 3 = 2))
  have goes : ∀ H1 : Heap, H1[r]? = some (cell.setSlot f.slot v) → H1.size = H.size → (∀ q, q ≠ r → H1[q]? = H[q]?) → W p l e R s m args below meth c H1 (locs ++ [⟨r, f.slot⟩]) cells slots Q (F0 m (pc + 3) ls rest) := by
    intro H1 e1 e2 e3
    refine k H1 _ (hH.put (o' := xpf o r b v) rfl rfl (fun _ _ => rfl) (fun q hq => xup_ne hq) e2 e3 ?_) (hS0.put e2 e3 hz)
    unfold xcel
    have hk' : xk (xpf o r b v) r = (3, a) := hk
    rw [hk']
    refine ⟨q, hq, cell.setSlot f.slot v, e1, q2, q3, ?_⟩
    rw [hsl]
    intro j hj
    rw [t_set q4 hap hbN v j hj]
    congr 1
    show _ = xup o.2.2.1 r b v r j
    unfold updV xup
    by_cases hjb : j = b
    · rw [if_pos hjb, if_pos ⟨rfl, hjb⟩]
    · rw [if_neg hjb, if_neg (fun z => hjb z.2)]; rfl
  by_cases hf : (q.2.1 b).2.2.2 = true
  · obtain ⟨hi1, hi2⟩ := hfin q hq hf
    have hlay := hts _ (hin _ (u_in_lay hbN))
    unfold u_lay at hlay
    rw [if_pos hf] at hlay
    have hcf : m.cls = cf := by
      obtain ⟨_, _, c', _, _, _, -, -, hf', -, -, -, hown2, -⟩ := Cond.laysFinal_spec hlay
      have e1 : c' = cf := by have := hi.symm.trans hf'; simp at this; exact this.1.symm
      rw [hi2] at hown2
      rw [← e1]; exact Option.some.inj (hown.symm.trans hown2)
    have h6 := u_fits hfc hkC hkind (Or.inr hlay) hi (hty b hbN) hn hfit
    exact W.putFinK hx hb hown hlink hi hst hcf (hmn.trans hi1) (by rw [q2]; exact h6) q1 q3 (by rw [hsl]; exact k2_hasslot (q4 b hbN)) rfl rfl hd goes
  · have hlay := hts _ (hin _ (u_in_lay hbN))
    unfold u_lay at hlay
    rw [if_neg hf] at hlay
    have h6 := u_store hfc hkC hkind hlay hi (hty b hbN) hn hfit
    exact W.putK hx hb (f := f) ⟨hown, hlink, ⟨_, _, _, hi⟩, hst⟩ (by rw [q2]; exact h6) q1 q3 (by rw [hsl]; exact k2_hasslot (q4 b hbN)) rfl rfl hd goes
theorem xarrI : Jvm.Cond.arrayClass .int ∈ xT := xW_in (by decide +kernel)
theorem xarrL : Jvm.Cond.arrayClass .long ∈ xT := xW_in (by decide +kernel)
theorem xsum_eq (st : List Value) : xsum st = (st.map fun v => v.category).sum := by
  induction st with
  | nil => rfl
  | cons v r ih => simp only [xsum, List.map_cons, List.sum_cons, ih]
theorem xnot_in {j : Int32} {n : Nat} (h : ¬ (j < 0 ∨ n ≤ j.toNatClampNeg)) : j.toNatClampNeg < n := Nat.not_le.mp fun q => h (Or.inr q)
theorem xmk_k (o : xO) (kd : Nat × Nat) (n : Nat) (fs : Nat → Value) {q : Nat} (h : o.2.2.2.1 = q) : xk (xmk o kd n fs) q = kd ∧ xi (xmk o kd n fs) q = (fun _ => 0) ∧ xf (xmk o kd n fs) q = fs := by
  subst h
  exact ⟨if_pos rfl, if_pos rfl, if_pos rfl⟩
set_option maxHeartbeats 8000000 in
theorem xhp_ok {i : Instr} (h : xhp i a b st o = some (st', o')) (hg : xgo i b = 1) (hx : p.tables.exec = Jvm.exec) (hb : c.code = xby y) (hown : s.vm.findClass (xow y) = some m.cls) (hts : ∀ w ∈ xT, w.before args s = true) (hck : (xln y).all (xlok y) = true)
    (hmn : meth.name = (xnm y).name) (hml : c.maxLocals = xml y) (hls : ls.size = xml y) (hfr : xfr y ≤ R.frames) (hlo : xlo y ≤ R.locals)
    (hd : decode (xby y) pc = .ok (i, len)) (ha : xaux y pc i len v a b = true) (hKs : xKs g z0 s) (hH : xH g z0 o H) (hS : va_S (xA z0) s.heap H locs)
    (hcc : cells + (xc o' - xc o) ≤ R.cells) (hss : slots + (xn o' - xn o) ≤ R.slots)
    (k : ∀ (H1 : Heap) (locs1 : List Loc), xH g z0 o' H1 → va_S (xA z0) s.heap H1 locs1 → W p l e R s m args below meth c H1 locs1 (cells + (xc o' - xc o)) (slots + (xn o' - xn o)) Q (F0 m (pc + len) ls st')) : W p l e R s m args below meth c H locs cells slots Q (F0 m pc ls st) := by
  have hz0 : z0 ≤ H.size := Nat.le_trans hKs.2.2.2.2.2.2.1 hS.1
  have same : ∀ {g : JFrame}, W p l e R s m args below meth c H locs (cells + (xc o - xc o)) (slots + (xn o - xn o)) Q g → W p l e R s m args below meth c H locs cells slots Q g := fun w => by rw [Nat.sub_self, Nat.sub_self, Nat.add_zero, Nat.add_zero] at w; exact w
  have ai := (hKs.1.2 0 _ rfl).1
  have al := (hKs.1.2 1 _ rfl).1
  have aw := (hKs.1.2 2 _ rfl).1
  cases i with
  | getfield ix =>
    simp only [xaux, Bool.and_eq_true, decide_eq_true_eq] at ha
    have h1 := Nat.eq_of_beq_eq_true ha.1
    subst h1
    unfold xhp at h
    dsimp only at h
    split at h
    · split at h
      · rename_i r rest hk
        cases h
        exact xgetf hx hb hown hts hck hd ha.2 hKs hH hk (same (k H locs hH hS))
      · cases h
    · cases h
  | putfield ix =>
    simp only [xaux, Bool.and_eq_true, decide_eq_true_eq] at ha
    have h1 := Nat.eq_of_beq_eq_true ha.1.1
    subst h1
    unfold xhp at h
    dsimp only at h
    split at h
    · split at h
      · rename_i w r rest hk
        cases h
        refine xputf hx hb hown hts hck hmn hd ha.1.2 (fun q hq hf => ?_) hKs hH hS hk.1 hk.2.1 hk.2.2 (fun H1 l1 h1 h2 => ?_)
        · have h3 := ha.2
          rw [hq] at h3
          dsimp only at h3
          rw [hf] at h3
          simp only [Bool.not_true, Bool.false_or, Bool.and_eq_true, decide_eq_true_eq] at h3
          exact h3
        · have := k H1 l1 h1 h2
          have e1 : xc (xpf o r b w) - xc o = 0 := Nat.sub_self _
          have e2 : xn (xpf o r b w) - xn o = 0 := Nat.sub_self _
          rw [e1, e2, Nat.add_zero, Nat.add_zero] at this
          exact this
      · cases h
    · cases h
  | iaload =>
    have h1 := Nat.eq_of_beq_eq_true (show Nat.beq len 1 = true from ha)
    subst h1
    unfold xhp at h
    dsimp only at h
    split at h
    · split at h
      · rename_i j r rest hk
        cases h
        have hlt := xnot_in hk.2
        rcases hk.1 with h1 | h1
        · exact W.iald (v := .int (xi o r j.toNatClampNeg)) hx hb (hH.at1 (n := 0) h1) (ai _ (fun j => .int (xi o r j))) (fun q => by cases q) (by show ¬ (j < 0 ∨ (arrV _ _ _).slots.size ≤ _); rw [arrV_size]; exact hk.2) (by show (arrV _ _ _).slots[_]? = _; rw [arrV_read _ _ hlt]) rfl rfl hd (same (k H locs hH hS))
        · obtain ⟨q1, q2, q3, q4⟩ := hH.at2 h1
          exact W.iald (v := .int (xi o r j.toNatClampNeg)) hx hb q1 hKs.2.1 q3 (by rw [q2]; exact hk.2) (q4 _ hlt) rfl rfl hd (same (k H locs hH hS))
      · cases h
    · cases h
  | iastore =>
    have h1 := Nat.eq_of_beq_eq_true (show Nat.beq len 1 = true from ha)
    subst h1
    unfold xhp at h
    dsimp only at h
    split at h
    · split at h
      · rename_i x j r rest hk
        cases h
        have hz : z0 ≤ r := (hH.2 r).2.2 (by rw [hk.1]; decide) (by rw [hk.1]; decide)
        refine W.iast hx hb (hH.at1 (n := 0) hk.1) (ai _ (fun j => .int (xi o r j))) (fun q => by cases q) (by show ¬ (j < 0 ∨ (arrV _ _ _).slots.size ≤ _); rw [arrV_size]; exact hk.2) rfl rfl hd fun H1 e z oq => ?_
        have := k H1 (locs ++ [⟨r, j.toNatClampNeg⟩]) (hH.put (o' := xpi o r j.toNatClampNeg x) rfl rfl (fun q hq => xup_ne hq) (fun _ _ => rfl) z oq ?_) (hS.put z oq hz)
        · have e1 : xc (xpi o r j.toNatClampNeg x) - xc o = 0 := Nat.sub_self _
          have e2 : xn (xpi o r j.toNatClampNeg x) - xn o = 0 := Nat.sub_self _
          rw [e1, e2, Nat.add_zero, Nat.add_zero] at this
          exact this
        · unfold xcel
          have hk' : (xk (xpi o r j.toNatClampNeg x) r).1 = 1 := hk.1
          rw [hk']
          show H1[r]? = some (arrV _ (xk o r).2 _)
          rw [e, arrV_store]
          congr 2
          funext q
          show _ = Value.int (xup o.2.1 r _ x r q)
          unfold xup
          by_cases hq : q = j.toNatClampNeg
          · subst hq
            simp [updV]
          · simp [updV, hq]; rfl
      · cases h
    · cases h
  | laload =>
    have h1 := Nat.eq_of_beq_eq_true (show Nat.beq len 1 = true from ha)
    subst h1
    unfold xhp at h
    dsimp only at h
    split at h
    · split at h
      · rename_i j r rest hk
        cases h
        have hlt := xnot_in hk.2
        exact W.lald (v := .long (xlg (xf o r j.toNatClampNeg))) hx hb (hH.at4 hk.1) (al _ (fun j => .long (xlg (xf o r j)))) (fun q => by cases q) (by show ¬ (j < 0 ∨ (arrV _ _ _).slots.size ≤ _); rw [arrV_size]; exact hk.2) (by show (arrV _ _ _).slots[_]? = _; rw [arrV_read _ _ hlt]) rfl rfl hd (same (k H locs hH hS))
      · cases h
    · cases h
  | lastore =>
    have h1 := Nat.eq_of_beq_eq_true (show Nat.beq len 1 = true from ha)
    subst h1
    unfold xhp at h
    dsimp only at h
    split at h
    · split at h
      · rename_i x j r rest hk
        cases h
        have hz : z0 ≤ r := (hH.2 r).2.2 (by rw [hk.1]; decide) (by rw [hk.1]; decide)
        refine W.last hx hb (hH.at4 hk.1) (al _ (fun j => .long (xlg (xf o r j)))) (fun q => by cases q) (by show ¬ (j < 0 ∨ (arrV _ _ _).slots.size ≤ _); rw [arrV_size]; exact hk.2) rfl rfl hd fun H1 e z oq => ?_
        have := k H1 (locs ++ [⟨r, j.toNatClampNeg⟩]) (hH.put (o' := xpf o r j.toNatClampNeg (.long x)) rfl rfl (fun _ _ => rfl) (fun q hq => xup_ne hq) z oq ?_) (hS.put z oq hz)
        · have e1 : xc (xpf o r j.toNatClampNeg (.long x)) - xc o = 0 := Nat.sub_self _
          have e2 : xn (xpf o r j.toNatClampNeg (.long x)) - xn o = 0 := Nat.sub_self _
          rw [e1, e2, Nat.add_zero, Nat.add_zero] at this
          exact this
        · unfold xcel
          have hk' : (xk (xpf o r j.toNatClampNeg (.long x)) r).1 = 4 := hk.1
          rw [hk']
          show H1[r]? = some (arrV _ (xk o r).2 _)
          rw [e, arrV_store]
          congr 2
          funext q
          show _ = Value.long (xlg (xup o.2.2.1 r _ (.long x) r q))
          unfold xup
          by_cases hq : q = j.toNatClampNeg
          · subst hq
            simp [updV, xlg]
          · simp [updV, hq]; rfl
      · cases h
    · cases h
  | aaload =>
    have h1 := Nat.eq_of_beq_eq_true (show Nat.beq len 1 = true from ha)
    subst h1
    unfold xhp at h
    dsimp only at h
    split at h
    · split at h
      · rename_i j r rest hk
        cases h
        have hlt := xnot_in hk.2
        exact W.aald (v := xrf (xf o r j.toNatClampNeg)) (ty := .object "WholeNumbers$Whole") hx hb (hH.at5 hk.1) (aw _ (fun j => xrf (xf o r j))) rfl (fun q => by cases q) (by show ¬ (j < 0 ∨ (arrV _ _ _).slots.size ≤ _); rw [arrV_size]; exact hk.2) (by show (arrV _ _ _).slots[_]? = _; rw [arrV_read _ _ hlt]) rfl rfl hd (same (k H locs hH hS))
      · cases h
    · cases h
  | aastore =>
    have h1 := Nat.eq_of_beq_eq_true (show Nat.beq len 1 = true from ha)
    subst h1
    unfold xhp at h
    dsimp only at h
    split at h
    · split at h
      · rename_i x j r rest hk
        cases h
        have hz : z0 ≤ r := (hH.2 r).2.2 (by rw [hk.1]; decide) (by rw [hk.1]; decide)
        have hlt := xnot_in hk.2.2
        have h0 : ¬ j < 0 := fun q => hk.2.2 (Or.inl q)
        obtain ⟨q, hq, cellV, g1, g2, g3, -⟩ := hH.at3 hk.2.1
        have hcls := (hKs.1.1 1 q hq).2
        obtain ⟨kA, comp, k1, k2, k3, -⟩ := (hKs.1.2 2 _ rfl).2
        have hq1 : q.1 = "WholeNumbers$Whole" := by cases hq; rfl
        have hcomp : comp = g.1.1 1 := Option.some.inj (k3.symm.trans (hq1 ▸ hcls.1))
        subst hcomp
        obtain ⟨kC, hkC, -⟩ := hcls.2
        refine W.aast hx hb (hH.at5 hk.1) (fun q h => by cases h) (fun h => by cases h) k1 k2 rfl hkC ⟨h0, by show _ < (arrV _ _ _).slots.size; rw [arrV_size]; exact hlt⟩ g1 (fun q h => by rw [g3] at h; cases h) (by rw [g2]; exact hkC) (by rw [g2]; exact va_assign hcls) rfl rfl hd fun H1 e z oq => ?_
        have := k H1 (locs ++ [⟨r, j.toNatClampNeg⟩]) (hH.put (o' := xpf o r j.toNatClampNeg (.ref x)) rfl rfl (fun _ _ => rfl) (fun q hq => xup_ne hq) z oq ?_) (hS.put z oq hz)
        · have e1 : xc (xpf o r j.toNatClampNeg (.ref x)) - xc o = 0 := Nat.sub_self _
          have e2 : xn (xpf o r j.toNatClampNeg (.ref x)) - xn o = 0 := Nat.sub_self _
          rw [e1, e2, Nat.add_zero, Nat.add_zero] at this
          exact this
        · unfold xcel
          have hk' : (xk (xpf o r j.toNatClampNeg (.ref x)) r).1 = 5 := hk.1
          rw [hk']
          show H1[r]? = some (arrV _ (xk o r).2 _)
          rw [e, arrV_store]
          congr 2
          funext q
          show _ = xrf (xup o.2.2.1 r _ (.ref x) r q)
          unfold xup
          by_cases hq : q = j.toNatClampNeg
          · subst hq
            simp [updV, xrf]
          · simp [updV, hq]; rfl
      · cases h
    · cases h
  | arraylength =>
    have h1 := Nat.eq_of_beq_eq_true (show Nat.beq len 1 = true from ha)
    subst h1
    unfold xhp at h
    dsimp only at h
    split at h
    · split at h
      · rename_i r rest hk
        cases h
        rcases hk with h1 | h1 | h1 | h1
        · exact W.alen hx hb (hH.at1 (n := 0) h1) (ai _ (fun j => .int (xi o r j))) (by rw [arrV_size]) rfl rfl hd (same (k H locs hH hS))
        · obtain ⟨q1, q2, q3, q4⟩ := hH.at2 h1
          exact W.alen hx hb q1 hKs.2.1 (by rw [q2]) rfl rfl hd (same (k H locs hH hS))
        · exact W.alen hx hb (hH.at4 h1) (al _ (fun j => .long (xlg (xf o r j)))) (by rw [arrV_size]) rfl rfl hd (same (k H locs hH hS))
        · exact W.alen hx hb (hH.at5 h1) (aw _ (fun j => xrf (xf o r j))) (by rw [arrV_size]) rfl rfl hd (same (k H locs hH hS))
      · cases h
    · cases h
  | idiv =>
    have h1 := Nat.eq_of_beq_eq_true (show Nat.beq len 1 = true from ha)
    subst h1
    unfold xhp at h
    dsimp only at h
    split at h
    · split at h
      · cases h
      · rename_i hne
        cases h
        exact lv_idiv hx hb hd hne (same (k H locs hH hS))
    · cases h
  | irem =>
    have h1 := Nat.eq_of_beq_eq_true (show Nat.beq len 1 = true from ha)
    subst h1
    unfold xhp at h
    dsimp only at h
    split at h
    · split at h
      · cases h
      · rename_i hne
        cases h
        exact lv_irem hx hb hd hne (same (k H locs hH hS))
    · cases h
  | ldiv =>
    have h1 := Nat.eq_of_beq_eq_true (show Nat.beq len 1 = true from ha)
    subst h1
    unfold xhp at h
    dsimp only at h
    split at h
    · split at h
      · cases h
      · rename_i hne
        cases h
        exact lv_ldiv hx hb hd hne (same (k H locs hH hS))
    · cases h
  | lrem =>
    have h1 := Nat.eq_of_beq_eq_true (show Nat.beq len 1 = true from ha)
    subst h1
    unfold xhp at h
    dsimp only at h
    split at h
    · split at h
      · cases h
      · rename_i hne
        cases h
        exact lv_lrem hx hb hd hne (same (k H locs hH hS))
    · cases h
  | new ix =>
    have hb0 : b = 0 := by
      by_cases hb0 : b = 0
      · exact hb0
      · exfalso
        have : Nat.beq b 0 = false := by cases b with | zero => exact absurd rfl hb0 | succ n => rfl
        simp only [xgo, this, cond_false] at hg
        exact absurd hg (by decide)
    subst hb0
    have ha' : (Nat.beq len 3 && decide ((3, ix, a, 0) ∈ xln y)) = true := ha
    simp only [Bool.and_eq_true, decide_eq_true_eq] at ha'
    have h1 := Nat.eq_of_beq_eq_true ha'.1
    subst h1
    have hl := List.all_eq_true.mp hck _ ha'.2
    unfold xhp at h
    dsimp only at h
    split at h
    · cases h
    · rename_i hz
      cases h
      have hzz := hH.1.resolve_right hz
      unfold xlok at hl
      dsimp only at hl
      cases hq : xcl[a]? with
      | none => rw [hq] at hl; cases hl
      | some q =>
        rw [hq] at hl
        simp only [Bool.and_eq_true] at hl
        obtain ⟨hin, hty, hnm, hN⟩ := xcok_of hq
        have hKn := hKs.1.1 a _ hq
        have e1 : xc (xmk o (3, a) (xnf a) (fun k => defaultValue (xft a k))) - xc o = 1 := Nat.add_sub_cancel_left _ _
        have e2 : xn (xmk o (3, a) (xnf a) (fun k => defaultValue (xft a k))) - xn o = q.2.2 := by rw [← hN]; exact Nat.add_sub_cancel_left _ _
        rw [e1] at hcc k
        rw [e2] at hss k
        refine W.newcK hx hb hown (hts _ (xW_in hl.1.1)) (hts _ (xW_in hl.1.2)) (hts _ (xW_in hl.2)) rfl hd hcc hss hKn.2.1 rfl fun H1 kC hkC e1 z1 o1 => ?_
        rw [hzz] at k
        refine k H1 locs (hH.mk hz hz0 z1 o1 ?_) ⟨Nat.le_trans hS.1 (by omega), fun x h1 h2 => (o1 x (Nat.lt_of_lt_of_le h1 hS.1)).trans (hS.2.1 x h1 h2), hS.2.2⟩
        obtain ⟨m1, m2, m3⟩ := xmk_k o (3, a) (xnf a) (fun k => defaultValue (xft a k)) hzz
        unfold xcel
        rw [m1, m3]
        exact ⟨q, hq, u_born (xft a) hts hin hKn hkC e1 hty⟩
  | newarray t =>
    unfold xhp at h
    dsimp only at h
    split at h
    · split at h
      · cases h
      · rename_i n rest hn
        cases h
        have hz : ¬ xz o = 0 := fun q => hn (Or.inl q)
        have hn0 : ¬ n < 0 := fun q => hn (Or.inr (Or.inl q))
        have hnb : n.toNatClampNeg ≤ 67108864 := Nat.not_lt.mp fun q => hn (Or.inr (Or.inr q))
        have hzz := hH.1.resolve_right hz
        obtain ⟨m1, m2, m3⟩ := xmk_k o (a, n.toNatClampNeg) n.toNatClampNeg (fun _ => .long 0) hzz
        have e1 : xc (xmk o (a, n.toNatClampNeg) n.toNatClampNeg (fun _ => .long 0)) - xc o = 1 := Nat.add_sub_cancel_left _ _
        have e2 : xn (xmk o (a, n.toNatClampNeg) n.toNatClampNeg (fun _ => .long 0)) - xn o = n.toNatClampNeg := Nat.add_sub_cancel_left _ _
        rw [e1] at hcc k
        rw [e2] at hss k
        rw [hzz] at k
        cases t with
        | int =>
          simp only [xaux, Bool.and_eq_true] at ha
          have h1 := Nat.eq_of_beq_eq_true ha.1
          subst h1
          have h2 := Nat.eq_of_beq_eq_true ha.2
          subst h2
          refine va_newaK (atype := .int) hx hb (hts _ xarrI) rfl hd rfl hn0 rfl (by show _ * 4 ≤ _; omega) hcc hss rfl fun H1 cA e1 z1 o1 hAr hNm => ?_
          have hcA : cA = g.2.1 := Option.some.inj (hNm.symm.trans (hKs.1.2 0 _ rfl).2)
          subst hcA
          refine k H1 locs (hH.mk hz hz0 z1 o1 ?_) ⟨Nat.le_trans hS.1 (by omega), fun x h1 h2 => (o1 x (Nat.lt_of_lt_of_le h1 hS.1)).trans (hS.2.1 x h1 h2), hS.2.2⟩
          unfold xcel
          rw [m1, m2]
          exact e1
        | long =>
          simp only [xaux, Bool.and_eq_true] at ha
          have h1 := Nat.eq_of_beq_eq_true ha.1
          subst h1
          have h2 := Nat.eq_of_beq_eq_true ha.2
          subst h2
          refine va_newaK (atype := .long) hx hb (hts _ xarrL) rfl hd rfl hn0 rfl (by show _ * 8 ≤ _; omega) hcc hss rfl fun H1 cA e1 z1 o1 hAr hNm => ?_
          have hcA : cA = g.2.2.1 := Option.some.inj (hNm.symm.trans (hKs.1.2 1 _ rfl).2)
          subst hcA
          refine k H1 locs (hH.mk hz hz0 z1 o1 ?_) ⟨Nat.le_trans hS.1 (by omega), fun x h1 h2 => (o1 x (Nat.lt_of_lt_of_le h1 hS.1)).trans (hS.2.1 x h1 h2), hS.2.2⟩
          unfold xcel
          rw [m1, m3]
          exact e1
        | _ => simp [xaux] at ha
    · cases h
  | anewarray ix =>
    simp only [xaux, Bool.and_eq_true, decide_eq_true_eq] at ha
    have h1 := Nat.eq_of_beq_eq_true ha.1
    subst h1
    have hl := List.all_eq_true.mp hck _ ha.2
    unfold xhp at h
    dsimp only at h
    split at h
    · split at h
      · cases h
      · rename_i n rest hn
        cases h
        have hz : ¬ xz o = 0 := fun q => hn (Or.inl q)
        have hn0 : ¬ n < 0 := fun q => hn (Or.inr (Or.inl q))
        have hnb : n.toNatClampNeg ≤ 67108864 := Nat.not_lt.mp fun q => hn (Or.inr (Or.inr q))
        have hzz := hH.1.resolve_right hz
        obtain ⟨m1, m2, m3⟩ := xmk_k o (5, n.toNatClampNeg) n.toNatClampNeg (fun _ => .null) hzz
        have e1 : xc (xmk o (5, n.toNatClampNeg) n.toNatClampNeg (fun _ => .null)) - xc o = 1 := Nat.add_sub_cancel_left _ _
        have e2 : xn (xmk o (5, n.toNatClampNeg) n.toNatClampNeg (fun _ => .null)) - xn o = n.toNatClampNeg := Nat.add_sub_cancel_left _ _
        rw [e1] at hcc k
        rw [e2] at hss k
        rw [hzz] at k
        refine W.anew hx hb hown (hts _ (xW_in hl)) (va_AO.use hKs.2.2.1) rfl hd rfl hn0 (by omega) hcc hss fun cA kA comp f1 f2 f3 f4 => ?_
        generalize hH1 : H.push ({ cls := cA, slots := Array.replicate n.toNatClampNeg .null, vm := .none } : Cell) = H1
        have z1 : H1.size = H.size + 1 := by rw [← hH1, Array.size_push]
        have e1 : H1[H.size]? = some (arrV cA n.toNatClampNeg (fun _ => .null)) := by rw [← hH1, Array.getElem?_push_size, ← arrV_new]
        have o1 : ∀ q : Nat, q < H.size → H1[q]? = H[q]? := fun q hq => by rw [← hH1, Array.getElem?_push, if_neg (Nat.ne_of_lt hq)]
        obtain ⟨kA', comp', -, -, -, hNm⟩ := (hKs.1.2 2 _ rfl).2
        have hcA : cA = g.2.2.2.1 := Option.some.inj (f1.symm.trans hNm)
        subst hcA
        refine k H1 locs (hH.mk hz hz0 z1 o1 ?_) ⟨Nat.le_trans hS.1 (by omega), fun x h1 h2 => (o1 x (Nat.lt_of_lt_of_le h1 hS.1)).trans (hS.2.1 x h1 h2), hS.2.2⟩
        unfold xcel
        rw [m1, m3]
        exact e1
    · cases h
  | invokespecial ix =>
    have hb0 : b = 9 := by
      by_cases hb0 : Nat.beq b 9 = true
      · exact Nat.eq_of_beq_eq_true hb0
      · exfalso
        have : Nat.beq b 9 = false := by
          cases hh : Nat.beq b 9 with
          | true => exact absurd hh hb0
          | false => rfl
        simp only [xgo, this, cond_false] at hg
        exact absurd hg (by decide)
    subst hb0
    have ha' : (Nat.beq len 3 && (decide ((5, ix, 0, 0) ∈ xln y) && Nat.ble 20 (xlo y) && Nat.ble 1 (xfr y))) = true := ha
    simp only [Bool.and_eq_true, decide_eq_true_eq] at ha'
    obtain ⟨g1, ⟨g2, g3⟩, g4⟩ := ha'
    have h1 := Nat.eq_of_beq_eq_true g1
    subst h1
    have hl := List.all_eq_true.mp hck _ g2
    have hl' : (xW (.methodLink (xow y) ix objectInit) && xW (.instanceMethod objectInit) && xW (.code objectInit ⟨#[0xb1]⟩ 1 none)) = true := hl
    simp only [Bool.and_eq_true] at hl'
    unfold xhp at h
    dsimp only at h
    split at h
    · split at h
      · rename_i q rest hs
        cases h
        have g3 := Nat.le_of_ble_eq_true g3
        have g4 := Nat.le_of_ble_eq_true g4
        refine W.objInit hx hb hown (hts _ (xW_in hl'.1.1)) (hts _ (xW_in hl'.1.2)) (hts _ (xW_in hl'.2)) rfl (hls.trans hml.symm) rfl hd (by omega) ?_ (same (k H locs hH hS))
        rw [xsum_eq] at hs
        show 0 + (List.map _ _).sum + 12 ≤ _
        omega
      · cases h
    · cases h
  | invokestatic ix =>
    have hb0 : b = 8 := by
      by_cases hb0 : Nat.beq b 8 = true
      · exact Nat.eq_of_beq_eq_true hb0
      · exfalso
        have : Nat.beq b 8 = false := by
          cases hh : Nat.beq b 8 with
          | true => exact absurd hh hb0
          | false => rfl
        simp only [xgo, this, cond_false] at hg
        exact absurd hg (by decide)
    subst hb0
    have ha' : (Nat.beq len 3 && (decide ((8, ix, a, 0) ∈ xln y) && Nat.ble 24 (xlo y) && Nat.ble 1 (xfr y))) = true := ha
    simp only [Bool.and_eq_true, decide_eq_true_eq] at ha'
    obtain ⟨g1, ⟨g2, g3⟩, g4⟩ := ha'
    have h1 := Nat.eq_of_beq_eq_true g1
    subst h1
    have hl := List.all_eq_true.mp hck _ g2
    have g3 := Nat.le_of_ble_eq_true g3
    have g4 := Nat.le_of_ble_eq_true g4
    unfold xhp at h
    dsimp only at h
    unfold xlok at hl
    dsimp only at hl
    split at h
    · simp only [Bool.and_eq_true] at hl
      split at h
      · split at h
        · rename_i hs
          cases h
          rw [xsum_eq] at hs
          exact va_mmax hx hb (hml.trans hls.symm) hown (hts _ (xW_in hl.1.1.1)) (hts _ (xW_in hl.1.1.2)) (hts _ (xW_in hl.1.2)) (hts _ (xW_in hl.2)) (by omega) (by omega) (by omega) (by omega) hd (same (k H locs hH hS))
        · cases h
      · cases h
    · simp only [Bool.and_eq_true] at hl
      split at h
      · split at h
        · rename_i hs
          cases h
          rw [xsum_eq] at hs
          exact va_mmin hx hb (hml.trans hls.symm) hown (hts _ (xW_in hl.1.1.1)) (hts _ (xW_in hl.1.1.2)) (hts _ (xW_in hl.1.2)) (hts _ (xW_in hl.2)) (by omega) (by omega) (by omega) (by omega) hd (same (k H locs hH hS))
        · cases h
      · cases h
    · simp only [Bool.and_eq_true] at hl
      split at h
      · split at h
        · rename_i hs
          cases h
          rw [xsum_eq] at hs
          exact va_mmin_long hx hb (hml.trans hls.symm) hown (hts _ (xW_in hl.1.1.1)) (hts _ (xW_in hl.1.1.2)) (hts _ (xW_in hl.1.2)) (hts _ (xW_in hl.2)) (by omega) (by omega) (by omega) (by omega) hd (same (k H locs hH hS))
        · cases h
      · cases h
    · simp only [Bool.and_eq_true] at hl
      split at h
      · split at h
        · rename_i hs
          cases h
          rw [xsum_eq] at hs
          exact va_mabs_long hx hb (hml.trans hls.symm) hown (hts _ (xW_in hl.1.1.1)) (hts _ (xW_in hl.1.1.2)) (hts _ (xW_in hl.1.2)) (hts _ (xW_in hl.2)) (by omega) (by omega) (by omega) (by omega) hd (same (k H locs hH hS))
        · cases h
      · cases h
    · cases h
  | _ => cases h
end XHP2
