/-! THE MAIN LAW, by the number of steps. -/
section XGO
variable {p : Program} {l : Launch} {e : Env} {R : Room} {s : State} {m : MethodId} {args : Array Value} {below : List Frame} {meth : Method} {c : Code} {H : Heap} {locs : List Loc} {cells slots : Nat} {Q : State → Prop}
variable {ls : Array Slot} {pc mc1 ms1 : Nat} {st0 rest : List Value} {g : xG} {z0 : Nat} {r1 : xR} {o1 : xO} {a1 : Array Value}
theorem xrun_go (hr : vx_Run p l e R s m args below meth c H locs cells slots mc1 ms1 (F0 m pc ls st0) rest (xQc g z0 r1 o1 a1) (xXC g z0 r1 o1) (xA z0)) (hS : va_S (xA z0) s.heap H locs)
    (kk : ∀ v, r1 = .inl v → ∀ (H1 : Heap) (locs1 : List Loc), xH g z0 o1 H1 → va_S (xA z0) s.heap H1 locs1 → W p l e R s m args below meth c H1 locs1 (cells + mc1) (slots + ms1) Q (F0 m (pc + 3) ls (v.toList ++ rest)))
    (kx : ∀ (k : Nat) (E : String), r1 = .inr k → xecl[k]? = some E → ∀ (q : Addr) (ce : Cell) (H1 : Heap) (locs1 : List Loc), xH g z0 o1 H1 → va_S (xA z0) s.heap H1 locs1 → H1[q]? = some ce → ce.vm = .none → s.vm.findClass E = some ce.cls →
      vx_W p l e R s m args below meth c H1 locs1 (cells + mc1) (slots + ms1) Q (F0 m pc ls rest) q) : W p l e R s m args below meth c H locs cells slots Q (F0 m pc ls st0) := by
  intro T hT X
  rcases hr T hT X with ⟨v, st₀, t, T', L, h0, X', hL, e1, e2, ⟨v', hv, hp, hb, hF⟩, st⟩ | ⟨q, st₀, t, T', L, E, ce, h0, X', hL, e1, e2, ⟨k, hk, hE, hb, hF⟩, hce, hcv, hcl, st⟩
  · cases hp
    obtain ⟨k1, k2, k3⟩ := vx_keep h0 e1 hS (fun _ _ h => h) (fun _ h => h) hL hF
    obtain ⟨t2, a1, b1⟩ := kk _ hv T'.heap (locs ++ L) (by rw [e1]; exact hb) k3 T' rfl X'
    exact ⟨t2, st t2 a1, b1⟩
  · obtain ⟨k1, k2, k3⟩ := vx_keep h0 e1 hS (fun _ _ h => h) (fun _ h => h) hL hF
    obtain ⟨t2, a1, b1⟩ := kx k E hk hE q ce T'.heap (locs ++ L) (by rw [e1]; exact hb) k3 (by rw [e1]; exact hce) hcv hcl T' rfl X'
    exact ⟨t2, st.trans a1, b1⟩
end XGO
theorem xlh.weak {ls : Array Slot} {nL i : Nat} {lv : List Value} {v : Value} (h : xlh ls nL (xs1 lv i v)) : xlh ls nL (xs1 lv i xj) := by
  refine ⟨h.1, h.2.1, fun j hj => ?_⟩
  have h2 := h.2.2 j
  unfold xs1 at hj h2 ⊢
  rw [xld_set] at hj h2 ⊢
  by_cases hij : i = j
  · rw [if_pos hij] at hj
    exact absurd (by split <;> rfl) hj
  · rw [if_neg hij] at hj h2 ⊢
    exact h2 hj
theorem xmok_of {y : Nat} (hall : ∀ y, y < 155 → xchk y = true) (hy : y < 154) : xmok y = true := by
  have h := hall y (by omega)
  unfold xchk at h
  simp only [Bool.and_eq_true, Bool.or_eq_true] at h
  rcases h.1.1.1.1.2 with h1 | h1
  · exact absurd (Nat.eq_of_beq_eq_true h1) (by omega)
  · exact h1
/-- after a throw the heap is as it was, but for what lies behind it -/
theorem xH.thrown {g : xG} {z0 : Nat} {o : xO} {H H1 : Heap} (h : xH g z0 o H) (hz : H.size ≤ H1.size) (hk : ∀ q : Nat, q < H.size → H1[q]? = H[q]?) : xH g z0 (xth o) H1 := by
  refine ⟨Or.inr rfl, fun a => ⟨?_, fun hn => Nat.lt_of_lt_of_le ((h.2 a).2.1 hn) hz, (h.2 a).2.2⟩⟩
  by_cases h0 : (xk o a).1 = 0
  · unfold xcel
    have : (xk (xth o) a).1 = 0 := h0
    rw [this]; trivial
  · exact (h.2 a).1.kept rfl rfl rfl (hk a ((h.2 a).2.1 h0))

set_option maxHeartbeats 8000000 in
theorem xjmp_ok {l : Launch} {g : xG} {z0 n : Nat} (hall : ∀ y, y < 155 → xchk y = true) (ih : xS l g z0 n) {y : Nat} {i : Instr} {len a b : Nat} {v : Value} {is : List xI} {lv st : List Value} {o o' : xO} {r : xR} (hy : y < 155)
    (h : (match xbr i a st with | some q => (match q.1 with | true => xex n y (xbk y q.2.1) lv q.2.2 o | false => xex n y is lv q.2.2 o) | none => none) = some (r, o')) {pc : Nat}
    {p : Program} {e : Env} {R : Room} {s : State} {m : MethodId} {args : Array Value} {below : List Frame} {meth : Method} {c : Code} (hC : xCx g z0 y p R s m args meth c)
    (hd : decode (xby y) pc = .ok (i, len)) (ha : xaux y pc i len v a b = true) (hg : xgo i b = 2) (hok' : xokl y (pc + len) is = true)
    {H : Heap} {locs : List Loc} {cells slots mc ms : Nat} {ls : Array Slot} (hH : xH g z0 o H) (hS : va_S (xA z0) s.heap H locs) (hl : xlh ls (xml y) lv) (hcm : cells + xc o' = mc + xc o) (hsm : slots + xn o' = ms + xn o) (hcR : mc ≤ R.cells) (hsR : ms ≤ R.slots) :
    W p l e R s m args below meth c H locs cells slots (vx_MQ below (xQc g z0 r o') (xXC g z0 r o') args s mc ms (xA z0)) (F0 m pc ls st) := by
  obtain ⟨hx, hb, -⟩ := id hC
  have jmp : ∀ (t : Nat) (st' : List Value), xex n y (xbk y t) lv st' o = some (r, o') → W p l e R s m args below meth c H locs cells slots (vx_MQ below (xQc g z0 r o') (xXC g z0 r o') args s mc ms (xA z0)) (F0 m t ls st') :=
    fun t st' h => ih y _ _ _ o r o' hy h t (xbk_ok (hall y hy) t) p e R s m args below meth c hC H locs cells slots mc ms ls hH hS hl hcm hsm hcR hsR
  have nxt : ∀ (st' : List Value), xex n y is lv st' o = some (r, o') → W p l e R s m args below meth c H locs cells slots (vx_MQ below (xQc g z0 r o') (xXC g z0 r o') args s mc ms (xA z0)) (F0 m (pc + len) ls st') :=
    fun st' h => ih y _ _ _ o r o' hy h _ hok' p e R s m args below meth c hC H locs cells slots mc ms ls hH hS hl hcm hsm hcR hsR
  cases i with
  | ifCond cc off =>
    simp only [xaux, Bool.and_eq_true, decide_eq_true_eq] at ha
    have h1 := Nat.eq_of_beq_eq_true ha.1
    subst h1
    have ht := ha.2
    cases hq : xbr (.ifCond cc off) a st with
    | none => rw [hq] at h; cases h
    | some q =>
      rw [hq] at h
      unfold xbr at hq
      dsimp only at hq
      split at hq
      · rename_i x rest
        cases hq
        dsimp only at h
        cases cc with
        | eq => exact lv_if_eq hx hb hd ht (fun hc => jmp _ _ (by rw [show xcb .eq x 0 = true from decide_eq_true hc] at h; exact h)) (fun hc => nxt _ (by rw [show xcb .eq x 0 = false from decide_eq_false hc] at h; exact h))
        | ne => exact lv_if_ne hx hb hd ht (fun hc => jmp _ _ (by rw [show xcb .ne x 0 = true from decide_eq_true hc] at h; exact h)) (fun hc => nxt _ (by rw [show xcb .ne x 0 = false from decide_eq_false (fun z => z hc)] at h; exact h))
        | lt => exact lv_if_lt hx hb hd ht (fun hc => jmp _ _ (by rw [show xcb .lt x 0 = true from decide_eq_true hc] at h; exact h)) (fun hc => nxt _ (by rw [show xcb .lt x 0 = false from decide_eq_false hc] at h; exact h))
        | ge => exact lv_if_ge hx hb hd ht (fun hc => jmp _ _ (by rw [show xcb .ge x 0 = true from decide_eq_true hc] at h; exact h)) (fun hc => nxt _ (by rw [show xcb .ge x 0 = false from decide_eq_false hc] at h; exact h))
        | gt => exact lv_if_gt hx hb hd ht (fun hc => jmp _ _ (by rw [show xcb .gt x 0 = true from decide_eq_true hc] at h; exact h)) (fun hc => nxt _ (by rw [show xcb .gt x 0 = false from decide_eq_false hc] at h; exact h))
        | le => exact lv_if_le hx hb hd ht (fun hc => jmp _ _ (by rw [show xcb .le x 0 = true from decide_eq_true hc] at h; exact h)) (fun hc => nxt _ (by rw [show xcb .le x 0 = false from decide_eq_false hc] at h; exact h))
      · cases hq
  | if_icmp cc off =>
    simp only [xaux, Bool.and_eq_true, decide_eq_true_eq] at ha
    have h1 := Nat.eq_of_beq_eq_true ha.1
    subst h1
    have ht := ha.2
    cases hq : xbr (.if_icmp cc off) a st with
    | none => rw [hq] at h; cases h
    | some q =>
      rw [hq] at h
      unfold xbr at hq
      dsimp only at hq
      split at hq
      · rename_i w x rest
        cases hq
        dsimp only at h
        cases cc with
        | eq => exact lv_icmp_eq hx hb hd ht (fun hc => jmp _ _ (by rw [show xcb .eq x w = true from decide_eq_true hc] at h; exact h)) (fun hc => nxt _ (by rw [show xcb .eq x w = false from decide_eq_false hc] at h; exact h))
        | ne => exact lv_icmp_ne hx hb hd ht (fun hc => jmp _ _ (by rw [show xcb .ne x w = true from decide_eq_true hc] at h; exact h)) (fun hc => nxt _ (by rw [show xcb .ne x w = false from decide_eq_false (fun z => z hc)] at h; exact h))
        | lt => exact lv_icmp_lt hx hb hd ht (fun hc => jmp _ _ (by rw [show xcb .lt x w = true from decide_eq_true hc] at h; exact h)) (fun hc => nxt _ (by rw [show xcb .lt x w = false from decide_eq_false hc] at h; exact h))
        | ge => exact lv_icmp_ge hx hb hd ht (fun hc => jmp _ _ (by rw [show xcb .ge x w = true from decide_eq_true hc] at h; exact h)) (fun hc => nxt _ (by rw [show xcb .ge x w = false from decide_eq_false hc] at h; exact h))
        | gt => exact lv_icmp_gt hx hb hd ht (fun hc => jmp _ _ (by rw [show xcb .gt x w = true from decide_eq_true hc] at h; exact h)) (fun hc => nxt _ (by rw [show xcb .gt x w = false from decide_eq_false hc] at h; exact h))
        | le => exact lv_icmp_le hx hb hd ht (fun hc => jmp _ _ (by rw [show xcb .le x w = true from decide_eq_true hc] at h; exact h)) (fun hc => nxt _ (by rw [show xcb .le x w = false from decide_eq_false hc] at h; exact h))
      · cases hq
  | goto off =>
    simp only [xaux, Bool.and_eq_true, decide_eq_true_eq] at ha
    have h1 := Nat.eq_of_beq_eq_true ha.1
    subst h1
    exact lv_goto hx hb hd ha.2 (jmp a st h)
  | tableswitch d lo hi offs =>
    simp only [xaux, Bool.and_eq_true, decide_eq_true_eq] at ha
    obtain ⟨⟨⟨h1, h2⟩, h3⟩, h4⟩ := ha
    have h1 := Nat.eq_of_beq_eq_true h1
    subst h1
    cases hq : xbr (.tableswitch d lo hi offs) a st with
    | none => rw [hq] at h; cases h
    | some q =>
      rw [hq] at h
      unfold xbr at hq
      dsimp only at hq
      split at hq
      · rename_i x rest
        split at hq
        · rename_i hc
          cases hq
          exact lv_tableOut (tgt := ((a : Int) + d).toNat) hx hb hd hc (by omega) (jmp _ _ h)
        · rename_i hc
          cases hq
          have c1 : ¬ x.toInt < lo := fun z => hc (Or.inl z)
          have c2 : ¬ hi < x.toInt := fun z => hc (Or.inr z)
          have hlt : (x.toInt - lo).toNat < offs.size := by omega
          have hget : offs[(x.toInt - lo).toNat]? = some (offs.getD (x.toInt - lo).toNat d) := by
            rw [Array.getD_eq_getD_getElem?, Array.getElem?_eq_getElem hlt]; rfl
          have hmem : offs.getD (x.toInt - lo).toNat d ∈ offs.toList := by
            rw [Array.getD_eq_getD_getElem?, Array.getElem?_eq_getElem hlt]
            exact Array.getElem_mem_toList hlt
          have h5 : 0 ≤ (a : Int) + offs.getD (x.toInt - lo).toNat d := of_decide_eq_true (List.all_eq_true.mp h3 _ hmem)
          exact lv_tableIn (tgt := ((a : Int) + offs.getD (x.toInt - lo).toNat d).toNat) hx hb hd c1 c2 hget (by omega) (jmp _ _ h)
      · cases hq
  | new ix => simp only [xgo] at hg; cases hb0 : Nat.beq b 0 <;> rw [hb0] at hg <;> cases hg
  | invokespecial ix => simp only [xgo] at hg; cases hb0 : Nat.beq b 9 <;> rw [hb0] at hg <;> cases hg
  | invokestatic ix => simp only [xgo] at hg; cases hb0 : Nat.beq b 8 <;> rw [hb0] at hg <;> cases hg
  | _ => cases hg
set_option maxHeartbeats 4000000 in
theorem xret_ok {l : Launch} {g : xG} {z0 : Nat} {y : Nat} {i : Instr} {len a b : Nat} {v : Value} {st : List Value} {o : xO} {q : Option Value} (hq : xre (xrt y) i st = some q) {pc : Nat}
    {p : Program} {e : Env} {R : Room} {s : State} {m : MethodId} {args : Array Value} {below : List Frame} {meth : Method} {c : Code} (hC : xCx g z0 y p R s m args meth c)
    (hd : decode (xby y) pc = .ok (i, len)) (ha : xaux y pc i len v a b = true) {H : Heap} {locs : List Loc} {cells slots : Nat} {ls : Array Slot} (hH : xH g z0 o H) (hS : va_S (xA z0) s.heap H locs) :
    W p l e R s m args below meth c H locs cells slots (vx_MQ below (xQc g z0 (.inl q) o) (xXC g z0 (.inl q) o) args s cells slots (xA z0)) (F0 m pc ls st) := by
  obtain ⟨hx, hb, hml, hown, hts, hr, hlocks, htab, hmn, hfr, hlo, hKs⟩ := id hC
  have hqc : ∀ t : State, t.heap = H → s.WarmedH t.vm → xQc g z0 (.inl q) o args s (.returned q) t := fun t ht _ => ⟨q, rfl, rfl, by rw [ht]; exact hH, hS.F ht⟩
  refine vx_ret ?_
  cases i with
  | ireturn =>
    have h1 := Nat.eq_of_beq_eq_true (show Nat.beq len 1 = true from ha)
    subst h1
    unfold xre at hq
    dsimp only at hq
    split at hq
    · split at hq
      · rename_i hc
        cases hq
        rcases hc with hc | ⟨hc, hn⟩
        · exact W.iret hx hb (hr.trans hc) hqc hS.2.2 hd hlocks
        · exact W.zret hx hb (hr.trans hc) hn hqc hS.2.2 hd hlocks
      · cases hq
    · cases hq
  | lreturn =>
    have h1 := Nat.eq_of_beq_eq_true (show Nat.beq len 1 = true from ha)
    subst h1
    unfold xre at hq
    dsimp only at hq
    split at hq
    · split at hq
      · rename_i hc
        cases hq
        exact W.lret hx hb (hr.trans hc) hqc hS.2.2 hd hlocks
      · cases hq
    · cases hq
  | areturn =>
    have h1 := Nat.eq_of_beq_eq_true (show Nat.beq len 1 = true from ha)
    subst h1
    unfold xre at hq
    dsimp only at hq
    split at hq
    · split at hq
      · rename_i x hc
        cases hq
        exact W.aret hx hb (hr.trans hc) (Or.inl ⟨_, rfl⟩) (Or.inr ⟨_, rfl⟩) hqc hS.2.2 hd hlocks
      · cases hq
    · cases hq
  | return_ =>
    have h1 := Nat.eq_of_beq_eq_true (show Nat.beq len 1 = true from ha)
    subst h1
    unfold xre at hq
    dsimp only at hq
    split at hq
    · split at hq
      · rename_i hc
        cases hq
        exact W.vret hx hb (hr.trans hc) hqc hS.2.2 hd hlocks
      · cases hq
    · cases hq
  | _ => cases hq
set_option maxHeartbeats 4000000 in
theorem xthr_ok {l : Launch} {g : xG} {z0 : Nat} (hall : ∀ y, y < 155 → xchk y = true) (hl9 : l.stackTraces = false) {y : Nat} {i : Instr} {len a b : Nat} {v : Value} {lv : List Value} {o : xO} (hy : y < 155) (hg : xgo i b = 4) {pc : Nat}
    {p : Program} {e : Env} {R : Room} {s : State} {m : MethodId} {args : Array Value} {below : List Frame} {meth : Method} {c : Code} (hC : xCx g z0 y p R s m args meth c)
    (hd : decode (xby y) pc = .ok (i, len)) (ha : xaux y pc i len v a b = true) {H : Heap} {locs : List Loc} {cells slots mc ms : Nat} {ls : Array Slot} (hH : xH g z0 o H) (hS : va_S (xA z0) s.heap H locs) (hl : xlh ls (xml y) lv)
    (hcm : cells + xc (xth o) = mc + xc o) (hsm : slots + xn (xth o) = ms + xn o) (hcR : mc ≤ R.cells) (hsR : ms ≤ R.slots) :
    W p l e R s m args below meth c H locs cells slots (vx_MQ below (xQc g z0 (.inr (xnr v)) (xth o)) (xXC g z0 (.inr (xnr v)) (xth o)) args s mc ms (xA z0)) (F0 m pc ls []) := by
  obtain ⟨hx, hb, hml, hown, hts, hr, hlocks, htab, hmn, hfr, hlo, hKs⟩ := id hC
  have hck := xln_ok (hall y hy)
  have e1 : xc (xth o) = xc o + 1 := rfl
  have e2 : xn (xth o) = xn o + 6 := rfl
  cases i with
  | new ix =>
    have hb0 : Nat.beq b 0 = false := by
      simp only [xgo] at hg
      cases hb0 : Nat.beq b 0 with
      | true => rw [hb0] at hg; cases hg
      | false => rfl
    simp only [xaux, hb0, cond_false, Bool.and_eq_true, decide_eq_true_eq] at ha
    obtain ⟨g1, ⟨⟨⟨⟨g2, g3⟩, g4⟩, g5⟩, g6⟩, g7⟩ := ha
    have h1 := Nat.eq_of_beq_eq_true g1
    subst h1
    have g4 := Nat.le_of_ble_eq_true g4
    have g5 := Nat.le_of_ble_eq_true g5
    have hl4 := List.all_eq_true.mp hck _ g2
    unfold xlok at hl4
    dsimp only at hl4
    cases ht : xthr[a]? with
    | none => rw [ht] at hl4; cases hl4
    | some t =>
      rw [ht] at hl4 g7
      obtain ⟨t1, t2, t3, t4, t5, t6⟩ := t
      simp only [Bool.and_eq_true, decide_eq_true_eq] at hl4 g7
      obtain ⟨⟨k1, k2⟩, k3⟩ := hl4
      have k2 := Nat.eq_of_beq_eq_true k2
      subst k1
      subst k2
      obtain ⟨gE, g7⟩ := g7
      unfold xtok at k3
      simp only [Bool.and_eq_true] at k3
      obtain ⟨⟨⟨⟨⟨m1, m2⟩, m3⟩, m4⟩, m5⟩, m6⟩ := k3
      obtain ⟨sa, hsa⟩ := hKs.2.2.2.2.1 _ (List.mem_of_getElem? ht)
      have hat : ∀ w ∈ vx_atS (xow y) t6 t3 xexn, w.before args s = true := by
        intro w hw
        have h1 := List.all_eq_true.mp m5 w hw
        rw [Bool.or_eq_true, decide_eq_true_eq] at h1
        rcases h1 with h1 | h1
        · exact hts _ (xW_in h1)
        · have h2 := hKs.2.2.2.1 w h1
          have h3 := List.all_eq_true.mp xnwk_all w h1
          cases w with
          | methodLinkNest a i x hh => exact va_Nw.use rfl h2
          | castable C T => exact va_Nw.use rfl h2
          | declares x => exact va_Nw.use rfl h2
          | _ => cases h3
      have hempty : c.exceptionTable.toList = [] := by rw [htab, g3]; rfl
      have hout : ∀ (q : Nat), ∀ x ∈ c.exceptionTable.toList, covers x q = false := fun q x hx => by rw [hempty] at hx; cases hx
      have hxc : ∀ t : State, s.vm.Alike t.vm → H.size ≤ t.heap.size → (∀ q : Nat, q < H.size → t.heap[q]? = H[q]?) → xXC g z0 (.inr (xnr v)) (xth o) t3 s t := by
        intro t _ hz hk
        refine ⟨xnr v, rfl, gE, hH.thrown hz hk, Nat.le_trans hS.1 hz, fun q hq hn => ?_⟩
        rw [hk q (Nat.lt_of_lt_of_le hq hS.1)]
        exact hS.2.1 q hq hn
      cases hb1 : Nat.beq b 1 with
      | true =>
        rw [hb1] at g7
        simp only [cond_true, Bool.and_eq_true, decide_eq_true_eq] at g7
        exact vx_throwS hx hb hl9 (own := xow y) (cls := t3) (text := t5) (names := xexn) (sa := sa) (A := xA z0) hown m1 (List.all_eq_true.mp m2) (hts _ (xW_in m3)) (hts _ (xW_in m4)) hsa hat (List.all_eq_true.mp m6) hKs.2.2.2.2.2.1.1 hKs.2.2.2.2.2.1.2 hS (hl.1.trans hml.symm)
          hd g6 g7.1.1 g7.1.2 g7.2 (hout _) (by show 2 + 3 < _; omega) (by show 0 + (13 * 3 + 43) ≤ _; omega) (by omega) (by omega) hlocks hxc hS.2.2 (by omega) (by omega)
      | false =>
        rw [hb1] at g7
        simp only [cond_false, Bool.and_eq_true, decide_eq_true_eq] at g7
        exact vx_throwSW hx hb hl9 (own := xow y) (cls := t3) (text := t5) (names := xexn) (sa := sa) (A := xA z0) hown m1 (List.all_eq_true.mp m2) (hts _ (xW_in m3)) (hts _ (xW_in m4)) hsa hat (List.all_eq_true.mp m6) hKs.2.2.2.2.2.1.1 hKs.2.2.2.2.2.1.2 hS (hl.1.trans hml.symm)
          hd g6 g7.1.1 g7.1.2 g7.2 (hout _) (by show 2 + 3 < _; omega) (by show 0 + (13 * 3 + 43) ≤ _; omega) (by omega) (by omega) hlocks hxc hS.2.2 (by omega) (by omega)
  | invokespecial ix => simp only [xgo] at hg; cases hb0 : Nat.beq b 9 <;> rw [hb0] at hg <;> cases hg
  | invokestatic ix => simp only [xgo] at hg; cases hb0 : Nat.beq b 8 <;> rw [hb0] at hg <;> cases hg
  | _ => cases hg
theorem xws_good {a : Nat} (h : xW (xcode a) = true) : ∀ w ∈ xws a, w ∈ xT ∧ ((w.onTables && w.keeps) = true ∨ ∃ ty, w = .arrayClass ty) := by
  intro w hw
  have hin : w ∈ xT := by
    rcases List.mem_cons.mp hw with rfl | h1
    · exact xW_in h
    · exact h1
  exact ⟨hin, good_of_word (List.mem_filter.mp hin).2⟩
theorem xpl_of {y : Nat} (hall : ∀ y, y < 155 → xchk y = true) (hy : y < 154) : plainName (xow y) = true := by
  have h := xmok_of hall hy
  unfold xmok at h
  simp only [Bool.and_eq_true] at h
  exact h.1.1.2
theorem xmfacts {y : Nat} (hall : ∀ y, y < 155 → xchk y = true) (hy : y < 154) : xW (xcode y) = true ∧ xW (.initialized (xow y)) = true ∧ (xow y ≠ "java/lang/invoke/MethodHandle" ∧ xow y ≠ "java/lang/invoke/VarHandle") ∧ (∀ sig, parseMethodDescriptor (xnm y).desc = some sig → xpn y = sig.parameters.length) ∧
    (match xkd y with
    | 0 => xW (.static (xnm y))
    | 1 => xW (.instanceMethod (xnm y)) && xW (.selects (xow y) (xnm y) (xnm y)) && decide (xhh y = [])
    | _ => xW (.instanceMethod (xnm y)) && decide ((xnm y).name = "<init>") && decide (xrt y = none) && decide (xhh y = [])) = true := by
  have h := xmok_of hall hy
  unfold xmok at h
  rw [Bool.and_eq_true, Bool.and_eq_true, Bool.and_eq_true, Bool.and_eq_true, Bool.and_eq_true, decide_eq_true_eq, decide_eq_true_eq] at h
  obtain ⟨⟨⟨⟨⟨h1, h2⟩, h3⟩, h4⟩, h5⟩, h6⟩ := h
  refine ⟨h1, h2, h3, fun sig hs => ?_, h6⟩
  rw [hs] at h5
  exact (Option.some.inj h5).symm
theorem xcallB {y a ix : Nat} {R : Room} {s : State} {args : Array Value} {mc ms : Nat} (hts : ∀ w ∈ xT, w.before args s = true) (hfr : xfr y ≤ R.frames) (hlo : xlo y ≤ R.locals) (m1 : xW (xcode a) = true) (m2 : xW (.initialized (xow a)) = true) (m3 : xow a ≠ "java/lang/invoke/MethodHandle" ∧ xow a ≠ "java/lang/invoke/VarHandle")
    (m5 : ∀ sig, parseMethodDescriptor (xnm a).desc = some sig → xpn a = sig.parameters.length) (hh : xhh a = []) (s3 : xfr a + 1 ≤ xfr y) (s4 : 8 + (xml a + 11) + xlo a ≤ xlo y) (hlk : (Jvm.Cond.methodLink (xow y) ix (xnm a)).before args s = true) :
    CallB R s args (xow y) ix (xnm a) (xby a) (xml a) (xrt a) (xws a) (xrm a mc ms) mc ms (xpn a) :=
  ⟨rfl, rfl, Nat.le_trans s3 hfr, Nat.le_trans s4 hlo, pay_in hts (xws_good m1), by unfold xws; rw [xcs hh]; exact List.mem_cons_self, by rw [← xcs hh]; exact hts _ (xW_in m1), hts _ (xW_in m2), m3, m5, hlk⟩
theorem xcallN {y a ix : Nat} {R : Room} {s : State} {args : Array Value} {mc ms : Nat} (hts : ∀ w ∈ xT, w.before args s = true) (hfr : xfr y ≤ R.frames) (hlo : xlo y ≤ R.locals) (m1 : xW (xcode a) = true) (m2 : xW (.initialized (xow a)) = true) (m3 : xow a ≠ "java/lang/invoke/MethodHandle" ∧ xow a ≠ "java/lang/invoke/VarHandle")
    (m5 : ∀ sig, parseMethodDescriptor (xnm a).desc = some sig → xpn a = sig.parameters.length) (hh : xhh a = []) (s3 : xfr a + 1 ≤ xfr y) (s4 : 8 + (xml a + 11) + xlo a ≤ xlo y) (hlk : (Jvm.Cond.methodLinkNest (xow y) ix (xnm a) "WholeNumbers").before args s = true) :
    va_CN R s args (xow y) ix (xnm a) "WholeNumbers" (xby a) (xml a) (xrt a) (xws a) (xrm a mc ms) mc ms (xpn a) :=
  ⟨⟨rfl, rfl, Nat.le_trans s3 hfr, Nat.le_trans s4 hlo, pay_in hts (xws_good m1), by unfold xws; rw [xcs hh]; exact List.mem_cons_self⟩, by rw [← xcs hh]; exact hts _ (xW_in m1), hts _ (xW_in m2), m3, m5, hlk⟩
theorem xcast_in {k : Nat} {E : String} (h : xecl[k]? = some E) : Jvm.Cond.castable E E ∈ xNW := by
  have hk : k < 3 := (List.getElem?_eq_some_iff.mp h).1
  have h1 : (xecl.all fun E => decide (Jvm.Cond.castable E E ∈ xNW)) = true := by decide +kernel
  exact of_decide_eq_true (List.all_eq_true.mp h1 E (List.mem_of_getElem? h))
set_option maxHeartbeats 4000000 in
/-- what a call has thrown is caught here, or goes on -/
theorem xexc_ok {l : Launch} {g : xG} {z0 n : Nat} (hall : ∀ y, y < 155 → xchk y = true) (ih : xS l g z0 n) {y k : Nat} {lv : List Value} {o1 o' : xO} {r : xR} (hy : y < 155)
    (h : (match xfn (xhd y) k with
                | some h => xex n y (xbk y h.1) (xs1 lv h.2 xj) [] o1
                | none => match xem2 (xhd y) with
                  | true => some (.inr k, o1)
                  | false => none) = some (r, o')) {pc : Nat}
    {p : Program} {e : Env} {R : Room} {s : State} {m : MethodId} {args : Array Value} {below : List Frame} {meth : Method} {c : Code} (hC : xCx g z0 y p R s m args meth c) (hcov : (xhh y).all (fun hh => xcov hh pc) = true) {E : String} (hE : xecl[k]? = some E)
    {H : Heap} {locs : List Loc} {cells slots mc ms : Nat} {ls : Array Slot} {rest : List Value} {q : Addr} {ce : Cell} (hH : xH g z0 o1 H) (hS : va_S (xA z0) s.heap H locs) (hce : H[q]? = some ce) (hcv : ce.vm = .none) (hcl : s.vm.findClass E = some ce.cls) (hl : xlh ls (xml y) lv) (hcm : cells + xc o' = mc + xc o1) (hsm : slots + xn o' = ms + xn o1) (hcR : mc ≤ R.cells) (hsR : ms ≤ R.slots) :
    vx_W p l e R s m args below meth c H locs cells slots (vx_MQ below (xQc g z0 r o') (xXC g z0 r o') args s mc ms (xA z0)) (F0 m pc ls rest) q := by
  obtain ⟨hx, hb, hml, hown, hts, hr, hlocks, htab, hmn, hfr, hlo, hKs⟩ := id hC
  have hchk := hall y hy
  unfold xchk at hchk
  simp only [Bool.and_eq_true] at hchk
  obtain ⟨⟨⟨-, hlen⟩, hzip⟩, hsh⟩ := hchk
  have hlen := Nat.eq_of_beq_eq_true hlen
  have catch1 : ∀ (pre suf : List ExceptionTableEntry) (e0 : Nat × Nat × Nat × Nat) (p0 : Nat × Nat × Nat), tableOf (xhh y) = pre ++ (⟨e0.1, e0.2.1, e0.2.2.1, e0.2.2.2⟩ : ExceptionTableEntry) :: suf → xcov e0 pc = true → xhok y (e0, p0) = true → p0.1 = k →
      (∀ z ∈ pre, covers z pc = false ∨ (z.catchType ≠ 0 ∧ ∃ nm : String, (Jvm.Cond.classLink (xow y) z.catchType nm).before args s = true ∧ va_Nc E nm s)) → xex n y (xbk y p0.2.1) (xs1 lv p0.2.2 xj) [] o1 = some (r, o') →
      vx_W p l e R s m args below meth c H locs cells slots (vx_MQ below (xQc g z0 r o') (xXC g z0 r o') args s mc ms (xA z0)) (F0 m pc ls rest) q := by
    intro pre suf e0 p0 htb hcv0 hok0 hpk hpass hrun
    unfold xhok at hok0
    dsimp only at hok0
    rw [hpk, hE] at hok0
    simp only [Bool.and_eq_true, Bool.not_eq_true'] at hok0
    obtain ⟨⟨b1, b2, b3⟩, b4⟩ := hok0
    have b1 := Nat.le_of_ble_eq_true b1
    unfold xcov at hcv0
    rw [Bool.and_eq_true] at hcv0
    have c1 := Nat.le_of_ble_eq_true hcv0.1
    have c2 := Nat.le_of_ble_eq_true hcv0.2
    have hne : e0.2.2.2 ≠ 0 := fun z => by rw [z] at b2; cases b2
    have hcast : (Jvm.Cond.castable E E).before args s = true := by
      have hin : Jvm.Cond.castable E E ∈ xNW := xcast_in hE
      exact va_Nw.use rfl (hKs.2.2.2.1 _ hin)
    have cont : ∀ (d : Nat), e0.2.2.1 + d = p0.2.1 → ∀ ls1 : Array Slot, lv_has ls1 (xml y) ((p0.2.2, Value.ref q) :: (xal lv).filter (fun z => !(z.1 == p0.2.2) && !(z.1 + 1 == p0.2.2 && z.2.category == 2))) →
        W p l e R s m args below meth c H locs cells slots (vx_MQ below (xQc g z0 r o') (xXC g z0 r o') args s mc ms (xA z0)) (F0 m (e0.2.2.1 + d) ls1 []) := by
      intro d hd ls1 hls
      rw [hd]
      exact ih y _ _ _ o1 r o' hy hrun _ (xbk_ok (hall y hy) _) p e R s m args below meth c hC H locs cells slots mc ms ls1 hH hS (xlh.weak (xlh.to1 hls)) hcm hsm hcR hsR
    refine vx_catch hown pre ⟨e0.1, e0.2.1, e0.2.2.1, e0.2.2.2⟩ suf (htab.trans htb) hpass (by show (decide (e0.1 ≤ pc) && decide (pc < e0.2.1)) = true; rw [Bool.and_eq_true]; exact ⟨decide_eq_true c1, decide_eq_true c2⟩) hne (hts _ (xW_in b3)) hcast hce hcv hcl ?_
    show W p l e R s m args below meth c H locs cells slots _ (F0 m e0.2.2.1 ls [.ref q])
    rw [Bool.or_eq_true] at b4
    rcases b4 with b4 | b4
    · rw [Bool.and_eq_true, decide_eq_true_eq] at b4
      exact lv_astore hx hb b4.1 hl.has b1 rfl (cont 2 (Nat.eq_of_beq_eq_true b4.2))
    · rw [Bool.and_eq_true] at b4
      have b5 := Nat.eq_of_beq_eq_true b4.2
      have b6 := b4.1
      generalize hkk : p0.2.2 = kk at b6 b1 cont
      match kk, b6 with
      | 0, b6 => exact lv_astore_n hx hb (of_decide_eq_true b6) rfl hl.has b1 rfl (cont 1 b5)
      | 1, b6 => exact lv_astore_n hx hb (of_decide_eq_true b6) rfl hl.has b1 rfl (cont 1 b5)
      | 2, b6 => exact lv_astore_n hx hb (of_decide_eq_true b6) rfl hl.has b1 rfl (cont 1 b5)
      | 3, b6 => exact lv_astore_n hx hb (of_decide_eq_true b6) rfl hl.has b1 rfl (cont 1 b5)
  cases hf : xfn (xhd y) k with
  | none =>
    rw [hf] at h
    try dsimp only at h
    cases he : xem2 (xhd y) with
    | false => rw [he] at h; cases h
    | true =>
      rw [he] at h
      cases h
      have hnil : xhd y = [] := by
        cases hh : xhd y with
        | nil => rfl
        | cons a t => rw [hh] at he; cases he
      have hnil2 : xhh y = [] := by
        rw [hnil] at hlen
        exact List.eq_nil_of_length_eq_zero hlen
      have hempty : c.exceptionTable.toList = [] := by rw [htab, hnil2]; rfl
      exact vx_out (E := E) (fun x hx => by rw [hempty] at hx; cases hx) hlocks hce hcv hcl (fun t ht _ => ⟨k, rfl, hE, by rw [ht]; exact hH, hS.F ht⟩) hS.2.2 (by omega) (by omega)
  | some hh =>
    rw [hf] at h
    try dsimp only at h
    cases hd1 : xhd y with
    | nil => rw [hd1] at hf; cases hf
    | cons p0 t0 =>
      cases hh1 : xhh y with
      | nil => rw [hd1, hh1] at hlen; cases hlen
      | cons e0 u0 =>
        rw [hd1] at hf hzip hsh
        rw [hh1] at hzip hcov
        rw [List.zip_cons_cons, List.all_cons, Bool.and_eq_true] at hzip
        rw [List.all_cons, Bool.and_eq_true] at hcov
        rw [xfn] at hf
        cases hb0 : Nat.beq p0.1 k with
        | true =>
          rw [hb0] at hf
          cases hf
          exact catch1 [] (tableOf u0) e0 p0 (by rw [hh1]; rfl) hcov.1 hzip.1 (Nat.eq_of_beq_eq_true hb0) (fun z hz => nomatch hz) h
        | false =>
          rw [hb0] at hf
          cases t0 with
          | nil => cases hf
          | cons p1 t1 =>
            cases t1 with
            | cons p2 t2 => cases hsh
            | nil =>
              cases u0 with
              | nil => rw [hd1, hh1] at hlen; cases hlen
              | cons e1 u1 =>
                rw [List.zip_cons_cons, List.all_cons, Bool.and_eq_true] at hzip
                rw [List.all_cons, Bool.and_eq_true] at hcov
                have hsh' : (Nat.beq p0.1 0 && (Nat.beq p1.1 1 || Nat.beq p1.1 2)) = true := hsh
                rw [Bool.and_eq_true, Bool.or_eq_true] at hsh'
                rw [cond_false, xfn] at hf
                cases hb1 : Nat.beq p1.1 k with
                | false => rw [hb1] at hf; cases hf
                | true =>
                  rw [hb1] at hf
                  cases hf
                  have hk1 := Nat.eq_of_beq_eq_true hb1
                  refine catch1 [⟨e0.1, e0.2.1, e0.2.2.1, e0.2.2.2⟩] (tableOf u1) e1 p1 (by rw [hh1]; rfl) hcov.2.1 hzip.2.1 hk1 (fun z hz => ?_) h
                  rw [List.mem_singleton.mp hz]
                  have hz0 := hzip.1
                  unfold xhok at hz0
                  dsimp only at hz0
                  rw [Nat.eq_of_beq_eq_true hsh'.1] at hz0
                  have hE0 : xecl[0]? = some "java/lang/IllegalArgumentException" := rfl
                  rw [hE0] at hz0
                  simp only [Bool.and_eq_true, Bool.not_eq_true'] at hz0
                  obtain ⟨⟨-, b2, b3⟩, -⟩ := hz0
                  refine Or.inr ⟨(fun z => by rw [show e0.2.2.2 = 0 from z] at b2; cases b2), _, hts _ (xW_in b3), ?_⟩
                  rcases hsh'.2 with z | z
                  · have := Nat.eq_of_beq_eq_true z
                    rw [← hk1, this] at hE
                    cases hE
                    exact hKs.2.2.2.2.2.2.2.1
                  · have := Nat.eq_of_beq_eq_true z
                    rw [← hk1, this] at hE
                    cases hE
                    exact hKs.2.2.2.2.2.2.2.2

set_option maxHeartbeats 8000000 in
theorem xcal_ok {l : Launch} {g : xG} {z0 n : Nat} (hall : ∀ y, y < 155 → xchk y = true) (ih : xS l g z0 n) {y : Nat} {i : Instr} {len a b gg : Nat} {v : Value} {is : List xI} {lv st : List Value} {o o' : xO} {r : xR} (hy : y < 155)
    (h : (match xtk (xnr v) [] st with
        | none => none
        | some q => match (xrc b o q.1 && (Nat.ble (xsum q.2) 8 && Nat.ble (xsl q.1).length (xml a))) with
          | false => none
          | true => match xex n a (xbk a 0) (xen (xml a) q.1) [] o with
            | none => none
            | some w => match w.1 with
              | .inl r => xex n y is lv (r.toList ++ q.2) w.2
              | .inr E => match xfn (xhd y) E with
                | some h => xex n y (xbk y h.1) (xs1 lv h.2 xj) [] w.2
                | none => match xem2 (xhd y) with
                  | true => some (.inr E, w.2)
                  | false => none) = some (r, o')) (hg : xgo i b = gg + 5) {pc : Nat}
    {p : Program} {e : Env} {R : Room} {s : State} {m : MethodId} {args : Array Value} {below : List Frame} {meth : Method} {c : Code} (hC : xCx g z0 y p R s m args meth c)
    (hd : decode (xby y) pc = .ok (i, len)) (ha : xaux y pc i len v a b = true) (hok' : xokl y (pc + len) is = true)
    {H : Heap} {locs : List Loc} {cells slots mc ms : Nat} {ls : Array Slot} (hH : xH g z0 o H) (hS : va_S (xA z0) s.heap H locs) (hl : xlh ls (xml y) lv) (hcm : cells + xc o' = mc + xc o) (hsm : slots + xn o' = ms + xn o) (hcR : mc ≤ R.cells) (hsR : ms ≤ R.slots) :
    W p l e R s m args below meth c H locs cells slots (vx_MQ below (xQc g z0 r o') (xXC g z0 r o') args s mc ms (xA z0)) (F0 m pc ls st) := by
  obtain ⟨hx, hb, hml, hown, hts, hr, hlocks, htab, hmn, hfr, hlo, hKs⟩ := id hC
  have hck := xln_ok (hall y hy)
  have hz0 : z0 ≤ H.size := Nat.le_trans hKs.2.2.2.2.2.2.1 hS.1
  have hwarm : ∀ U : State, U.heap = H → s.WarmedH U.vm → xKs g z0 U := fun U hU hW => hKs.warm hW (by rw [hU]; exact hz0) (by rw [hU]; exact fun q hq hn => hS.2.1 q hq hn)
  cases hq : xtk (xnr v) [] st with
  | none => rw [hq] at h; cases h
  | some q =>
    rw [hq] at h
    obtain ⟨as, rest⟩ := q
    obtain ⟨as', hlenA, ea, hst⟩ := xtk_spec _ _ _ _ _ hq
    rw [List.append_nil] at ea
    subst ea
    try dsimp only at h
    cases hbb : (xrc b o as && (Nat.ble (xsum rest) 8 && Nat.ble (xsl as).length (xml a))) with
    | false => rw [hbb] at h; cases h
    | true =>
      rw [hbb] at h
      rw [Bool.and_eq_true, Bool.and_eq_true] at hbb
      obtain ⟨hrc, hsum, hlen⟩ := hbb
      have hsum := Nat.le_of_ble_eq_true hsum
      have hlen := Nat.le_of_ble_eq_true hlen
      rw [xsum_eq] at hsum
      try dsimp only at h
      cases hw : xex n a (xbk a 0) (xen (xml a) as) [] o with
      | none => rw [hw] at h; cases h
      | some w =>
        rw [hw] at h
        obtain ⟨r1, o1⟩ := w
        have hc1 := xex_cnt _ _ _ _ _ _ _ _ hw
        try dsimp only at h
        have hc2 : xc o1 ≤ xc o' ∧ xn o1 ≤ xn o' := by
          cases r1 with
          | inl r1 => exact xex_cnt _ _ _ _ _ _ _ _ h
          | inr E =>
            try dsimp only at h
            cases hf : xfn (xhd y) E with
            | some hh => rw [hf] at h; exact xex_cnt _ _ _ _ _ _ _ _ h
            | none =>
              rw [hf] at h
              try dsimp only at h
              cases he : xem2 (xhd y) with
              | true => rw [he] at h; cases h; exact ⟨Nat.le_refl _, Nat.le_refl _⟩
              | false => rw [he] at h; cases h
        have goes : len = 3 → (xhh y).all (fun hh => xcov hh pc) = true → vx_Run p l e R s m args below meth c H locs cells slots (xc o1 - xc o) (xn o1 - xn o) (F0 m pc ls st) rest (xQc g z0 r1 o1 as.toArray) (xXC g z0 r1 o1) (xA z0) →
            W p l e R s m args below meth c H locs cells slots (vx_MQ below (xQc g z0 r o') (xXC g z0 r o') args s mc ms (xA z0)) (F0 m pc ls st) := by
          intro h3 hcov hrun
          subst h3
          refine xrun_go hrun hS (fun v hv H1 l1 hH1 hS1 => ?_) (fun k E hk hE q ce H1 l1 hH1 hS1 hce hcv hcl => ?_)
          · subst hv
            exact ih y is _ _ o1 r o' hy h _ hok' p e R s m args below meth c hC H1 l1 _ _ mc ms ls hH1 hS1 hl (by omega) (by omega) hcR hsR
          · subst hk
            exact xexc_ok hall ih hy h hC hcov hE hH1 hS1 hce hcv hcl hl (by omega) (by omega) hcR hsR
        have hpre : PreS s H (xPc g z0 as o) as := ⟨xblind, fun U hU hW => ⟨rfl, by rw [hU]; exact hH, hwarm U hU hW⟩⟩
        have hcc : cells + (xc o1 - xc o) ≤ R.cells ∧ slots + (xn o1 - xn o) ≤ R.slots := ⟨by omega, by omega⟩
        -- what the place says of the call
        have site : xsit y pc (match i with | .invokestatic ix => ix | .invokevirtual ix => ix | .invokespecial ix => ix | _ => 0) v a b = true → a < 154 ∧ (∀ ix, ix = (match i with | .invokestatic ix => ix | .invokevirtual ix => ix | .invokespecial ix => ix | _ => 0) → xlok y (if b % 10 = 3 ∨ b % 10 = 5 then 2 else 1, ix, a, 0) = true) ∧ xfr a + 1 ≤ xfr y ∧ 8 + (xml a + 11) + xlo a ≤ xlo y ∧ (xhh y).all (fun hh => xcov hh pc) = true ∧ xnr v = xpn a + (if b % 10 = 0 ∨ b % 10 = 3 then 0 else 1) ∧ (xhh a = [] ∨ b % 10 = 0) := by
          intro hs
          unfold xsit at hs
          simp only [Bool.and_eq_true, decide_eq_true_eq] at hs
          obtain ⟨⟨⟨⟨⟨⟨s1, s2⟩, s3⟩, s4⟩, s5⟩, s6⟩, s7⟩ := hs
          exact ⟨Nat.le_of_ble_eq_true s1, fun ix hix => by rw [hix]; exact List.all_eq_true.mp hck _ s2, Nat.le_of_ble_eq_true s3, Nat.le_of_ble_eq_true s4, s5, by rw [s6]; rfl, s7⟩
        cases i with
        | new ix => simp only [xgo] at hg; cases hb0 : Nat.beq b 0 <;> rw [hb0] at hg <;> cases hg
        | invokestatic ix =>
          have hb8 : Nat.beq b 8 = false := by
            cases hb0 : Nat.beq b 8 with
            | true => simp only [xgo, hb0, cond_true] at hg; cases hg
            | false => rfl
          simp only [xaux, hb8, cond_false, Bool.and_eq_true] at ha
          obtain ⟨g1, ⟨g2, g3⟩, g4⟩ := ha
          obtain ⟨s1, s2, s3, s4, s5, s6, s7⟩ := site g4
          have hM := xmet hall ih s1 hw hlen (xpl_of hall s1)
          obtain ⟨m1, m2, m3, m5, m6⟩ := xmfacts hall s1
          have hkd := Nat.eq_of_beq_eq_true g3
          rw [hkd] at m6
          have hst0 : (Jvm.Cond.static (xnm a)).before args s = true := hts _ (xW_in m6)
          have hbm : b % 10 = 0 ∨ b % 10 = 3 := by
            simp only [Bool.or_eq_true] at g2
            rcases g2 with ((z | z) | z) | z
            · left; rw [Nat.eq_of_beq_eq_true z]
            · right; rw [Nat.eq_of_beq_eq_true z]
            · left; exact Nat.eq_of_beq_eq_true z
            · right; exact Nat.eq_of_beq_eq_true z
          rw [if_pos hbm, Nat.add_zero] at s6
          refine goes (Nat.eq_of_beq_eq_true g1) s5 ?_
          rcases hbm with hb0 | hb3
          · have hlk := s2 ix rfl
            rw [if_neg (by omega)] at hlk
            have hlk : (Jvm.Cond.methodLink (xow y) ix (xnm a)).before args s = true := hts _ (xW_in hlk)
            by_cases hh : xhh a = []
            · exact vx_runS (Ts := xT) ⟨hx, hb, hml, hown, hts⟩ hM ⟨xcallB hts hfr hlo m1 m2 m3 m5 hh s3 s4 hlk, hst0⟩ hpre rfl (hlenA.trans s6) hl.1 hst (lv_room hsum) (Nat.eq_of_beq_eq_true g1 ▸ hd) hcc
            · exact vx_runSX (Ts := xT) (hh := xhh a) ⟨hx, hb, hml, hown, hts⟩ hM ⟨⟨rfl, rfl, Nat.le_trans s3 hfr, Nat.le_trans s4 hlo, pay_in hts (xws_good m1), by unfold xws; rw [xcw hh]; exact List.mem_cons_self⟩, by rw [← xcw hh]; exact hts _ (xW_in m1), hts _ (xW_in m2), m3, m5, hlk, hst0⟩ hpre rfl (hlenA.trans s6) hl.1 hst (lv_room hsum) (Nat.eq_of_beq_eq_true g1 ▸ hd) hcc
          · have hlk := s2 ix rfl
            rw [if_pos (Or.inl hb3)] at hlk
            have hlk := hKs.2.2.2.1 _ (of_decide_eq_true hlk)
            have hh : xhh a = [] := s7.resolve_right (by omega)
            exact vx_runSN (Ts := xT) (host := "WholeNumbers") ⟨hx, hb, hml, hown, hts⟩ hM ⟨xcallN hts hfr hlo m1 m2 m3 m5 hh s3 s4 (va_Nw.use rfl hlk), hst0, trivial⟩ hpre rfl (hlenA.trans s6) hl.1 hst (lv_room hsum) (Nat.eq_of_beq_eq_true g1 ▸ hd) hcc
        | invokevirtual ix =>
          simp only [xaux, Bool.and_eq_true, decide_eq_true_eq] at ha
          obtain ⟨⟨⟨⟨g1, g2⟩, g3⟩, g5⟩, g4⟩ := ha
          obtain ⟨s1, s2, s3, s4, s5, s6, s7⟩ := site g4
          have hM := xmet hall ih s1 hw hlen (xpl_of hall s1)
          obtain ⟨m1, m2, m3, m5, m6⟩ := xmfacts hall s1
          have hkd := Nat.eq_of_beq_eq_true g3
          rw [hkd] at m6
          simp only [Bool.and_eq_true, decide_eq_true_eq] at m6
          have hbm := Nat.eq_of_beq_eq_true g2
          rw [if_neg (by omega)] at s6
          unfold xrc at hrc
          rw [hbm] at hrc
          refine goes (Nat.eq_of_beq_eq_true g1) s5 ?_
          have hlk := s2 ix rfl
          rw [if_neg (by omega)] at hlk
          have hlk : (Jvm.Cond.methodLink (xow y) ix (xnm a)).before args s = true := hts _ (xW_in hlk)
          cases as with
          | nil => cases hrc
          | cons w As =>
            cases w with
            | ref r0 =>
              have hk := of_decide_eq_true hrc
              obtain ⟨q, hq1, cell, q1, q2, q3, q4⟩ := hH.at3 hk
              rw [hq1] at g5
              have hcls := (hKs.1.1 _ q hq1).2.1
              have hC : q.1 = xow a := Option.some.inj g5
              rw [List.length_cons] at hlenA
              exact vx_runV (C := xow a) (b := r0) (As := As) (Ts := xT) ⟨hx, hb, hml, hown, hts⟩ hM ⟨xcallB hts hfr hlo m1 m2 m3 m5 m6.2 s3 s4 hlk, hts _ (xW_in m6.1.1), hts _ (xW_in m6.1.2)⟩ ⟨hpre.1, ⟨cell, q1, by rw [q3]; rfl, by rw [q2, ← hC]; exact hcls⟩, hpre.2⟩ rfl (by omega) hl.1 (by rw [hst]; simp) (lv_room hsum) (Nat.eq_of_beq_eq_true g1 ▸ hd) hcc
            | _ => cases hrc
        | invokespecial ix =>
          have hb9 : Nat.beq b 9 = false := by
            cases hb0 : Nat.beq b 9 with
            | true => simp only [xgo, hb0, cond_true] at hg; cases hg
            | false => rfl
          simp only [xaux, hb9, cond_false, Bool.and_eq_true] at ha
          obtain ⟨g1, ⟨g2, g3⟩, g4⟩ := ha
          obtain ⟨s1, s2, s3, s4, s5, s6, s7⟩ := site g4
          have hM := xmet hall ih s1 hw hlen (xpl_of hall s1)
          obtain ⟨m1, m2, m3, m5, m6⟩ := xmfacts hall s1
          have hkd := Nat.eq_of_beq_eq_true g3
          rw [hkd] at m6
          simp only [Bool.and_eq_true, decide_eq_true_eq] at m6
          obtain ⟨⟨⟨m6, m7⟩, m8⟩, m9⟩ := m6
          have hbm : b % 10 = 2 ∨ b % 10 = 5 := by
            simp only [Bool.or_eq_true] at g2
            rcases g2 with z | z
            · left; exact Nat.eq_of_beq_eq_true z
            · right; exact Nat.eq_of_beq_eq_true z
          rw [if_neg (by omega)] at s6
          refine goes (Nat.eq_of_beq_eq_true g1) s5 ?_
          have hr0 : ∃ r0 As, as = .ref r0 :: As := by
            unfold xrc at hrc
            rcases hbm with hb2 | hb5
            · rw [hb2] at hrc
              cases as with
              | nil => cases hrc
              | cons w As => cases w with
                | ref r0 => exact ⟨r0, As, rfl⟩
                | _ => cases hrc
            · rw [hb5] at hrc
              cases as with
              | nil => cases hrc
              | cons w As => cases w with
                | ref r0 => exact ⟨r0, As, rfl⟩
                | _ => cases hrc
          obtain ⟨r0, As, rfl⟩ := hr0
          rw [List.length_cons] at hlenA
          have hlk := s2 ix rfl
          rcases hbm with hb2 | hb5
          · rw [if_neg (by omega)] at hlk
            have hlk : (Jvm.Cond.methodLink (xow y) ix (xnm a)).before args s = true := hts _ (xW_in hlk)
            have hcb := xcallB hts hfr hlo m1 m2 m3 m5 m9 s3 s4 hlk (mc := xc o1 - xc o) (ms := xn o1 - xn o)
            rw [m8] at hcb
            exact vx_runI (b := r0) (As := As) (Ts := xT) ⟨hx, hb, hml, hown, hts⟩ hM ⟨hcb, m7, hts _ (xW_in m6)⟩ hpre rfl (by omega) hl.1 (by rw [hst]; simp) (lv_room hsum) (Nat.eq_of_beq_eq_true g1 ▸ hd) hcc
          · rw [if_pos (Or.inr hb5)] at hlk
            have hlk := hKs.2.2.2.1 _ (of_decide_eq_true hlk)
            have hcb := xcallN hts hfr hlo m1 m2 m3 m5 m9 s3 s4 (va_Nw.use (A := args) rfl hlk) (mc := xc o1 - xc o) (ms := xn o1 - xn o)
            rw [m8] at hcb
            exact vx_runIN (b := r0) (As := As) (Ts := xT) (host := "WholeNumbers") ⟨hx, hb, hml, hown, hts⟩ hM ⟨hcb, m7, hts _ (xW_in m6)⟩ hpre rfl (by omega) hl.1 (by rw [hst]; simp) (lv_room hsum) (Nat.eq_of_beq_eq_true g1 ▸ hd) hcc
        | _ => cases hg
set_option maxHeartbeats 16000000 in
theorem xsound {l : Launch} {g : xG} {z0 : Nat} (hall : ∀ y, y < 155 → xchk y = true) (hl9 : l.stackTraces = false) : ∀ n, xS l g z0 n := by
  intro n
  induction n with
  | zero => intro y is lv st o r o' hy h; cases h
  | succ n ih =>
    intro y is lv st o r o' hy h pc hok p e R s m args below meth c hC H locs cells slots mc ms ls hH hS hl hcm hsm hcR hsR
    obtain ⟨hx, hb, hml, hown, hts, hr, hlocks, htab, hmn, hfr, hlo, hKs⟩ := id hC
    have hck := xln_ok (hall y hy)
    cases is with
    | nil => rw [xex] at h; cases h
    | cons en is =>
      obtain ⟨i, len, v, a, b⟩ := en
      rw [xokl, Bool.and_eq_true, Bool.and_eq_true, decide_eq_true_eq] at hok
      obtain ⟨⟨hd, ha⟩, hok'⟩ := hok
      rw [xex] at h
      generalize hg : xgo i b = gg at h
      match gg, h with
      | 0, h =>
        try dsimp only at h
        cases hq : xpu i v a lv st with
        | none => rw [hq] at h; cases h
        | some q =>
          rw [hq] at h
          exact xpu_ok (lv' := q.1) (st' := q.2) hq hx hb hown hts hck hd ha hl (fun ls' hl' => ih y is _ _ o r o' hy h _ hok' p e R s m args below meth c hC H locs cells slots mc ms ls' hH hS hl' hcm hsm hcR hsR)
      | 1, h =>
        try dsimp only at h
        cases hq : xhp i a b st o with
        | none => rw [hq] at h; cases h
        | some q =>
          rw [hq] at h
          obtain ⟨st', o1⟩ := q
          have h1 := xhp_cnt hq
          have h2 : xc o1 ≤ xc o' ∧ xn o1 ≤ xn o' := xex_cnt _ _ _ _ _ _ _ _ h
          have hA : cells + (xc o1 - xc o) ≤ R.cells := by omega
          have hB : slots + (xn o1 - xn o) ≤ R.slots := by omega
          exact xhp_ok hq hg hx hb hown hts hck hmn hml hl.1 hfr hlo hd ha hKs hH hS hA hB (fun H1 l1 hH1 hS1 => ih y is _ _ o1 r o' hy h _ hok' p e R s m args below meth c hC H1 l1 _ _ mc ms ls hH1 hS1 hl (by omega) (by omega) hcR hsR)
      | 2, h => exact xjmp_ok hall ih hy h hC hd ha hg hok' hH hS hl hcm hsm hcR hsR
      | 3, h =>
        try dsimp only at h
        cases hq : xre (xrt y) i st with
        | none => rw [hq] at h; cases h
        | some q =>
          rw [hq] at h
          cases h
          have e1 : cells = mc := by omega
          have e2 : slots = ms := by omega
          subst e1
          subst e2
          exact xret_ok hq hC hd ha hH hS
      | 4, h =>
        try dsimp only at h
        cases hq : xem st with
        | false => rw [hq] at h; cases h
        | true =>
          rw [hq] at h
          cases h
          cases st with
          | cons w t => cases hq
          | nil => exact xthr_ok hall hl9 hy hg hC hd ha hH hS hl hcm hsm hcR hsR
      | gg + 5, h => exact xcal_ok hall ih hy h hg hC hd ha hok' hH hS hl hcm hsm hcR hsR
