/-! THE ABSTRACT MACHINE: methods run over a heap by addresses; what it does the real machine does (parts 04 ..). -/
def xdef : xM := (⟨"", "", ""⟩, ⟨#[]⟩, 0, none, [], (0, 0), [], [])
def xgt : List xM → Nat → xM
  | [], _ => xdef
  | m :: r, n => match n with
    | 0 => m
    | k + 1 => xgt r k
def xm (y : Nat) : xM := xgt xtab y
def xnm (y : Nat) : MethodName := (xm y).1
def xby (y : Nat) : ByteArray := (xm y).2.1
def xml (y : Nat) : Nat := (xm y).2.2.1
def xrt (y : Nat) : Option FieldType := (xm y).2.2.2.1
def xhh (y : Nat) : List (Nat × Nat × Nat × Nat) := (xm y).2.2.2.2.1
def xfr (y : Nat) : Nat := (xm y).2.2.2.2.2.1.1
def xlo (y : Nat) : Nat := (xm y).2.2.2.2.2.1.2
def xhd (y : Nat) : List (Nat × Nat × Nat) := (xm y).2.2.2.2.2.2.1
def xbl (y : Nat) : List (Nat × List xI) := (xm y).2.2.2.2.2.2.2
def xlk : List (Nat × List xI) → Nat → List xI
  | [], _ => []
  | q :: r, t => bif Nat.beq q.1 t then q.2 else xlk r t
def xbk (y t : Nat) : List xI := xlk (xbl y) t
def xfn : List (Nat × Nat × Nat) → Nat → Option (Nat × Nat)
  | [], _ => none
  | q :: r, t => bif Nat.beq q.1 t then some q.2 else xfn r t
/-! the heap: kinds (1: ints, 2: the script, 3: an object, 4: longs, 5: Wholes; how many, or which class), ints, fields, size (0: not known any more), cells and slots made so far -/
abbrev xO : Type := (Nat → Nat × Nat) × (Nat → Nat → Int32) × (Nat → Nat → Value) × Nat × Nat × Nat
def xk (o : xO) : Nat → Nat × Nat := o.1
def xi (o : xO) : Nat → Nat → Int32 := o.2.1
def xf (o : xO) : Nat → Nat → Value := o.2.2.1
def xz (o : xO) : Nat := o.2.2.2.1
def xc (o : xO) : Nat := o.2.2.2.2.1
def xn (o : xO) : Nat := o.2.2.2.2.2
def xup {α : Type} (f : Nat → Nat → α) (a k : Nat) (v : α) : Nat → Nat → α := fun b j => if b = a ∧ j = k then v else f b j
def xpi (o : xO) (a k : Nat) (v : Int32) : xO := (o.1, xup o.2.1 a k v, o.2.2)
def xpf (o : xO) (a k : Nat) (v : Value) : xO := (o.1, o.2.1, xup o.2.2.1 a k v, o.2.2.2)
def xmk (o : xO) (kd : Nat × Nat) (n : Nat) (fs : Nat → Value) : xO :=
  ((fun b => if b = o.2.2.2.1 then kd else o.1 b), (fun b => if b = o.2.2.2.1 then (fun _ => 0) else o.2.1 b), (fun b => if b = o.2.2.2.1 then fs else o.2.2.1 b), o.2.2.2.1 + 1, o.2.2.2.2.1 + 1, o.2.2.2.2.2 + n)
def xth (o : xO) : xO := (o.1, o.2.1, o.2.2.1, 0, o.2.2.2.2.1 + 1, o.2.2.2.2.2 + 6)
/-! locals: a list by place; xj where nothing is known -/
def xj : Value := .retAddr 0
def xld (lv : List Value) (i : Nat) : Value := lv.getD i xj
def xkl (lv : List Value) : Nat → List Value
  | 0 => lv
  | k + 1 => match xld lv k with
    | .long _ => lv.set k xj
    | .double _ => lv.set k xj
    | _ => lv
def xs1 (lv : List Value) (i : Nat) (v : Value) : List Value := (xkl lv i).set i v
def xs2 (lv : List Value) (i : Nat) (v : Value) : List Value := ((xkl lv i).set i v).set (i + 1) xj
def xsl : List Value → List Value
  | [] => []
  | v :: r => match v with
    | .long x => .long x :: xj :: xsl r
    | .double x => .double x :: xj :: xsl r
    | w => w :: xsl r
def xen (n : Nat) (args : List Value) : List Value := xsl args ++ List.replicate (n - (xsl args).length) xj
def xsum : List Value → Nat
  | [] => 0
  | v :: r => v.category + xsum r
def xcd (c : Jvm.ClassFile.Cond) (x y : Int32) : Prop := match c with
  | .eq => x = y
  | .ne => ¬ x = y
  | .lt => x < y
  | .ge => x ≥ y
  | .gt => x > y
  | .le => x ≤ y
def xcb (c : Jvm.ClassFile.Cond) (x y : Int32) : Bool := match c with
  | .eq => decide (x = y)
  | .ne => decide (¬ x = y)
  | .lt => decide (x < y)
  | .ge => decide (x ≥ y)
  | .gt => decide (x > y)
  | .le => decide (x ≤ y)
theorem xcb_iff (c : Jvm.ClassFile.Cond) (x y : Int32) : xcb c x y = true ↔ xcd c x y := by cases c <;> exact decide_eq_true_iff
/-! what neither heap nor jump is -/
def xpu (i : Instr) (v : Value) (a : Nat) (lv st : List Value) : Option (List Value × List Value) := match i with
  | .iconst _ => some (lv, v :: st)
  | .bipush _ => some (lv, v :: st)
  | .sipush _ => some (lv, v :: st)
  | .lconst _ => some (lv, v :: st)
  | .ldc _ => some (lv, v :: st)
  | .ldc_w _ => some (lv, v :: st)
  | .ldc2_w _ => some (lv, v :: st)
  | .iload_n _ => match xld lv a with | .int x => some (lv, .int x :: st) | _ => none
  | .iload _ => match xld lv a with | .int x => some (lv, .int x :: st) | _ => none
  | .lload_n _ => match xld lv a with | .long x => some (lv, .long x :: st) | _ => none
  | .lload _ => match xld lv a with | .long x => some (lv, .long x :: st) | _ => none
  | .aload_n _ => match xld lv a with | .ref x => some (lv, .ref x :: st) | _ => none
  | .aload _ => match xld lv a with | .ref x => some (lv, .ref x :: st) | _ => none
  | .istore_n _ => match st with | .int x :: r => some (xs1 lv a (.int x), r) | _ => none
  | .istore _ => match st with | .int x :: r => some (xs1 lv a (.int x), r) | _ => none
  | .astore_n _ => match st with | .ref x :: r => some (xs1 lv a (.ref x), r) | _ => none
  | .astore _ => match st with | .ref x :: r => some (xs1 lv a (.ref x), r) | _ => none
  | .lstore_n _ => match st with | .long x :: r => some (xs2 lv a (.long x), r) | _ => none
  | .lstore _ => match st with | .long x :: r => some (xs2 lv a (.long x), r) | _ => none
  | .iinc _ _ => match xld lv a, v with | .int x, .int c => some (xs1 lv a (.int (x + c)), st) | _, _ => none
  | .iadd => match st with | .int y :: .int x :: r => some (lv, .int (x + y) :: r) | _ => none
  | .isub => match st with | .int y :: .int x :: r => some (lv, .int (x - y) :: r) | _ => none
  | .imul => match st with | .int y :: .int x :: r => some (lv, .int (x * y) :: r) | _ => none
  | .iand => match st with | .int y :: .int x :: r => some (lv, .int (x &&& y) :: r) | _ => none
  | .ior => match st with | .int y :: .int x :: r => some (lv, .int (x ||| y) :: r) | _ => none
  | .ixor => match st with | .int y :: .int x :: r => some (lv, .int (x ^^^ y) :: r) | _ => none
  | .ineg => match st with | .int x :: r => some (lv, .int (-x) :: r) | _ => none
  | .ishl => match st with | .int y :: .int x :: r => some (lv, .int (x <<< (y &&& 31)) :: r) | _ => none
  | .ishr => match st with | .int y :: .int x :: r => some (lv, .int (x >>> (y &&& 31)) :: r) | _ => none
  | .iushr => match st with | .int y :: .int x :: r => some (lv, .int ((x.toUInt32 >>> (y.toUInt32 &&& Int32.toUInt32 31)).toInt32) :: r) | _ => none
  | .ladd => match st with | .long y :: .long x :: r => some (lv, .long (x + y) :: r) | _ => none
  | .lsub => match st with | .long y :: .long x :: r => some (lv, .long (x - y) :: r) | _ => none
  | .lmul => match st with | .long y :: .long x :: r => some (lv, .long (x * y) :: r) | _ => none
  | .land => match st with | .long y :: .long x :: r => some (lv, .long (x &&& y) :: r) | _ => none
  | .lor => match st with | .long y :: .long x :: r => some (lv, .long (x ||| y) :: r) | _ => none
  | .lxor => match st with | .long y :: .long x :: r => some (lv, .long (x ^^^ y) :: r) | _ => none
  | .lneg => match st with | .long x :: r => some (lv, .long (-x) :: r) | _ => none
  | .lshl => match st with | .int y :: .long x :: r => some (lv, .long (x <<< (y.toInt64 &&& 63)) :: r) | _ => none
  | .lshr => match st with | .int y :: .long x :: r => some (lv, .long (x >>> (y.toInt64 &&& 63)) :: r) | _ => none
  | .lushr => match st with | .int y :: .long x :: r => some (lv, .long ((x.toUInt64 >>> (y.toInt64.toUInt64 &&& Int64.toUInt64 63)).toInt64) :: r) | _ => none
  | .i2l => match st with | .int x :: r => some (lv, .long x.toInt64 :: r) | _ => none
  | .l2i => match st with | .long x :: r => some (lv, .int x.toInt32 :: r) | _ => none
  | .lcmp => match st with | .long y :: .long x :: r => some (lv, .int (lg_cmp x y) :: r) | _ => none
  | .pop => match st with | .int _ :: r => some (lv, r) | _ => none
  | .dup => match st with | .int x :: r => some (lv, .int x :: .int x :: r) | .ref x :: r => some (lv, .ref x :: .ref x :: r) | _ => none
  | .dup2 => match st with | .long x :: r => some (lv, .long x :: .long x :: r) | .int y :: .ref x :: r => some (lv, .int y :: .ref x :: .int y :: .ref x :: r) | _ => none
  | _ => none
def xlg : Value → Int64 := fun v => match v with | .long x => x | _ => 0
def xrf : Value → Value := fun v => match v with | .ref q => .ref q | _ => .null
def xnf (a : Nat) : Nat := ((xcl.map (fun q => q.2.2)).getD a 0)
def xft (a k : Nat) : FieldType := (xtys.getD a (fun _ => .int)) k
/-- heap -/
def xhp (i : Instr) (a b : Nat) (st : List Value) (o : xO) : Option (List Value × xO) := match i with
  | .getfield _ => match st with | .ref r :: s => if xk o r = (3, a) then some (xf o r b :: s, o) else none | _ => none
  | .putfield _ => match st with | v :: .ref r :: s => if xk o r = (3, a) ∧ narrow (xft a b) v = v ∧ fits (xft a b) v = true then some (s, xpf o r b v) else none | _ => none
  | .iaload => match st with | .int j :: .ref r :: s => if ((xk o r).1 = 1 ∨ (xk o r).1 = 2) ∧ ¬ (j < 0 ∨ (xk o r).2 ≤ j.toNatClampNeg) then some (.int (xi o r j.toNatClampNeg) :: s, o) else none | _ => none
  | .iastore => match st with | .int x :: .int j :: .ref r :: s => if (xk o r).1 = 1 ∧ ¬ (j < 0 ∨ (xk o r).2 ≤ j.toNatClampNeg) then some (s, xpi o r j.toNatClampNeg x) else none | _ => none
  | .laload => match st with | .int j :: .ref r :: s => if (xk o r).1 = 4 ∧ ¬ (j < 0 ∨ (xk o r).2 ≤ j.toNatClampNeg) then some (.long (xlg (xf o r j.toNatClampNeg)) :: s, o) else none | _ => none
  | .lastore => match st with | .long x :: .int j :: .ref r :: s => if (xk o r).1 = 4 ∧ ¬ (j < 0 ∨ (xk o r).2 ≤ j.toNatClampNeg) then some (s, xpf o r j.toNatClampNeg (.long x)) else none | _ => none
  | .aaload => match st with | .int j :: .ref r :: s => if (xk o r).1 = 5 ∧ ¬ (j < 0 ∨ (xk o r).2 ≤ j.toNatClampNeg) then some (xrf (xf o r j.toNatClampNeg) :: s, o) else none | _ => none
  | .aastore => match st with | .ref x :: .int j :: .ref r :: s => if (xk o r).1 = 5 ∧ xk o x = (3, 1) ∧ ¬ (j < 0 ∨ (xk o r).2 ≤ j.toNatClampNeg) then some (s, xpf o r j.toNatClampNeg (.ref x)) else none | _ => none
  | .arraylength => match st with | .ref r :: s => if (xk o r).1 = 1 ∨ (xk o r).1 = 2 ∨ (xk o r).1 = 4 ∨ (xk o r).1 = 5 then some (.int (Int32.ofNat (xk o r).2) :: s, o) else none | _ => none
  | .new _ => if xz o = 0 then none else some (.ref (xz o) :: st, xmk o (3, a) (xnf a) (fun k => defaultValue (xft a k)))
  | .newarray _ => match st with | .int n :: s => if xz o = 0 ∨ n < 0 ∨ 67108864 < n.toNatClampNeg then none else some (.ref (xz o) :: s, xmk o (a, n.toNatClampNeg) n.toNatClampNeg (fun _ => .long 0)) | _ => none
  | .anewarray _ => match st with | .int n :: s => if xz o = 0 ∨ n < 0 ∨ 67108864 < n.toNatClampNeg then none else some (.ref (xz o) :: s, xmk o (5, n.toNatClampNeg) n.toNatClampNeg (fun _ => .null)) | _ => none
  | .idiv => match st with | .int y :: .int x :: r => if y = 0 then none else some (.int (x / y) :: r, o) | _ => none
  | .irem => match st with | .int y :: .int x :: r => if y = 0 then none else some (.int (x - x / y * y) :: r, o) | _ => none
  | .ldiv => match st with | .long y :: .long x :: r => if y = 0 then none else some (.long (x / y) :: r, o) | _ => none
  | .lrem => match st with | .long y :: .long x :: r => if y = 0 then none else some (.long (x - x / y * y) :: r, o) | _ => none
  | .invokespecial _ => match st with | .ref _ :: s => if xsum s ≤ 8 then some (s, o) else none | _ => none
  | .invokestatic _ => match a with
    | 0 => (match st with | .int y :: .int x :: r => if xsum r ≤ 8 then some (.int (if x < y then y else x) :: r, o) else none | _ => none)
    | 1 => (match st with | .int y :: .int x :: r => if xsum r ≤ 8 then some (.int (if y < x then y else x) :: r, o) else none | _ => none)
    | 2 => (match st with | .long y :: .long x :: r => if xsum r ≤ 8 then some (.long (if y < x then y else x) :: r, o) else none | _ => none)
    | 3 => (match st with | .long x :: r => if xsum r ≤ 8 then some (.long (if 0 < x then x else -x) :: r, o) else none | _ => none)
    | _ => none
  | _ => none
/-- jumps: taken or not, where to -/
def xbr (i : Instr) (a : Nat) (st : List Value) : Option (Bool × Nat × List Value) := match i with
  | .ifCond c _ => match st with | .int x :: r => some (xcb c x 0, a, r) | _ => none
  | .if_icmp c _ => match st with | .int y :: .int x :: r => some (xcb c x y, a, r) | _ => none
  | .goto _ => some (true, a, st)
  | .tableswitch d lo hi offs => match st with
    | .int x :: r => if x.toInt < lo ∨ hi < x.toInt then some (true, ((a : Int) + d).toNat, r) else some (true, ((a : Int) + offs.getD (x.toInt - lo).toNat d).toNat, r)
    | _ => none
  | _ => none
/-- ends: the value must be as the method's type keeps it -/
def xre (rt : Option FieldType) (i : Instr) (st : List Value) : Option (Option Value) := match i with
  | .ireturn => match st with | [.int x] => if rt = some .int ∨ rt = some .boolean ∧ narrow .boolean (.int x) = .int x then some (some (.int x)) else none | _ => none
  | .lreturn => match st with | [.long x] => if rt = some .long then some (some (.long x)) else none | _ => none
  | .areturn => match st with | [.ref x] => if rt = some (.object "WholeNumbers$Whole") then some (some (.ref x)) else none | _ => none
  | .return_ => match st with | [] => if rt = none then some none else none | _ => none
  | _ => none
def xgo (i : Instr) (b : Nat) : Nat := match i with
  | .getfield _ => 1 | .putfield _ => 1 | .iaload => 1 | .iastore => 1 | .laload => 1 | .lastore => 1 | .aaload => 1 | .aastore => 1 | .arraylength => 1
  | .newarray _ => 1 | .anewarray _ => 1 | .idiv => 1 | .irem => 1 | .ldiv => 1 | .lrem => 1
  | .new _ => bif Nat.beq b 0 then 1 else 4
  | .invokespecial _ => bif Nat.beq b 9 then 1 else 5
  | .invokevirtual _ => 5 | .invokestatic _ => bif Nat.beq b 8 then 1 else 5
  | .ifCond _ _ => 2 | .if_icmp _ _ => 2 | .goto _ => 2 | .tableswitch _ _ _ _ => 2
  | .ireturn => 3 | .lreturn => 3 | .areturn => 3 | .return_ => 3
  | _ => 0
abbrev xR : Type := Option Value ⊕ Nat
/-- the receiver of a call by a name: an object of that class -/
def xrc (b : Nat) (o : xO) (args : List Value) : Bool := match b % 10 with
  | 0 => true
  | 3 => true
  | 1 => (match args with | .ref r :: _ => decide (xk o r = (3, b / 10)) | _ => false)
  | 2 => (match args with | .ref _ :: _ => true | _ => false)
  | 5 => (match args with | .ref _ :: _ => true | _ => false)
  | _ => false
def xtk : Nat → List Value → List Value → Option (List Value × List Value)
  | 0, acc, st => some (acc, st)
  | k + 1, acc, st => match st with
    | [] => none
    | v :: r => xtk k (v :: acc) r
def xnr : Value → Nat := fun v => match v with | .retAddr n => n | _ => 0
def xem : List Value → Bool := fun st => match st with
  | [] => true
  | _ => false
def xem2 : List (Nat × Nat × Nat) → Bool := fun st => match st with
  | [] => true
  | _ => false
def xex : Nat → Nat → List xI → List Value → List Value → xO → Option (xR × xO)
  | 0, _, _, _, _, _ => none
  | n + 1, y, is0, lv, st, o => match is0 with
    | [] => none
    | (i, _, v, a, b) :: is => match xgo i b with
      | 0 => match xpu i v a lv st with
        | some q => xex n y is q.1 q.2 o
        | none => none
      | 1 => match xhp i a b st o with
        | some q => xex n y is lv q.1 q.2
        | none => none
      | 2 => match xbr i a st with
        | some q => match q.1 with
          | true => xex n y (xbk y q.2.1) lv q.2.2 o
          | false => xex n y is lv q.2.2 o
        | none => none
      | 3 => match xre (xrt y) i st with
        | some r => some (.inl r, o)
        | none => none
      | 4 => match xem st with
        | true => some (.inr (xnr v), xth o)
        | false => none
      | _ => match xtk (xnr v) [] st with
        | none => none
        | some q => match (xrc b o q.1 && (Nat.ble (xsum q.2) 8 && Nat.ble (xsl q.1).length (xml a))) with
          | false => none
          | true => match xex n a (xbk a 0) (xen (xml a) q.1) [] o with
            | none => none
            | some w => match w.1 with
              | .inl r => xex n y is lv (r.toList ++ q.2) w.2
              | .inr E => match xfn (xhd y) E with
                | some h => xex n y (xbk y h.1) (xs1 lv h.2 xj) [] w.2
                | none => match xem2 (xhd y) with
                  | true => some (.inr E, w.2)
                  | false => none
theorem xex_more : ∀ (n y : Nat) (is : List xI) (lv st : List Value) (o : xO) (w : xR × xO), xex n y is lv st o = some w → xex (n + 1) y is lv st o = some w := by
  intro n
  induction n with
  | zero => intro y is lv st o w h; cases h
  | succ n ih =>
    intro y is lv st o w h
    cases is with
    | nil => rw [xex] at h; cases h
    | cons e is =>
      obtain ⟨i, len, v, a, b⟩ := e
      rw [xex] at h ⊢
      generalize xgo i b = g at h ⊢
      match g, h with
      | 0, h =>
        try dsimp only at h ⊢
        cases hq : xpu i v a lv st with
        | none => rw [hq] at h; cases h
        | some q => rw [hq] at h; exact ih _ _ _ _ _ _ h
      | 1, h =>
        try dsimp only at h ⊢
        cases hq : xhp i a b st o with
        | none => rw [hq] at h; cases h
        | some q => rw [hq] at h; exact ih _ _ _ _ _ _ h
      | 2, h =>
        try dsimp only at h ⊢
        cases hq : xbr i a st with
        | none => rw [hq] at h; cases h
        | some q =>
          rw [hq] at h
          obtain ⟨c, t, s'⟩ := q
          cases c with
          | true => exact ih _ _ _ _ _ _ h
          | false => exact ih _ _ _ _ _ _ h
      | 3, h => exact h
      | 4, h => exact h
      | k + 5, h =>
        try dsimp only at h ⊢
        cases hq : xtk (xnr v) [] st with
        | none => rw [hq] at h; cases h
        | some q =>
          rw [hq] at h
          try dsimp only at h ⊢
          cases hb : (xrc b o q.1 && (Nat.ble (xsum q.2) 8 && Nat.ble (xsl q.1).length (xml a))) with
          | false => rw [hb] at h; cases h
          | true =>
            rw [hb] at h
            try dsimp only at h ⊢
            cases hw : xex n a (xbk a 0) (xen (xml a) q.1) [] o with
            | none => rw [hw] at h; cases h
            | some w' =>
              rw [hw] at h
              rw [ih _ _ _ _ _ _ hw]
              obtain ⟨r, o'⟩ := w'
              cases r with
              | inl r => exact ih _ _ _ _ _ _ h
              | inr E =>
                try dsimp only at h ⊢
                cases hf : xfn (xhd y) E with
                | none => rw [hf] at h; exact h
                | some hd => rw [hf] at h; exact ih _ _ _ _ _ _ h
theorem xex_le {n m y : Nat} {is : List xI} {lv st : List Value} {o : xO} {w : xR × xO} (hnm : n ≤ m) (h : xex n y is lv st o = some w) : xex m y is lv st o = some w := by
  induction hnm with
  | refl => exact h
  | step _ ih => exact xex_more _ _ _ _ _ _ _ ih
/-- from here on the run ends, with Q of its answer and of the heap behind it -/
def RW (Q : xR → xO → Prop) (y : Nat) (is : List xI) (lv st : List Value) (o : xO) : Prop := ∃ (n : Nat) (r : xR) (o' : xO), xex n y is lv st o = some (r, o') ∧ Q r o'
/-- a method's contract at its arguments and this heap -/
def Ct (y : Nat) (args : List Value) (o : xO) (Q : xR → xO → Prop) : Prop := RW Q y (xbk y 0) (xen (xml y) args) [] o
def xkt (Q : xR → xO → Prop) (y : Nat) (is : List xI) (lv rest : List Value) (r : xR) (o : xO) : Prop := match r with
  | .inl v => RW Q y is lv (v.toList ++ rest) o
  | .inr E => match xfn (xhd y) E with
    | some h => RW Q y (xbk y h.1) (xs1 lv h.2 xj) [] o
    | none => xem2 (xhd y) = true ∧ Q (.inr E) o
def xps : Nat → List xI → List Value → List Value → Option (List xI × List Value × List Value)
  | 0, is, lv, st => some (is, lv, st)
  | k + 1, is0, lv, st => match is0 with
    | [] => none
    | (i, _, v, a, b) :: is => match xgo i b with
      | 0 => match xpu i v a lv st with
        | some q => xps k is q.1 q.2
        | none => none
      | _ => none
section RWrows
variable {Q : xR → xO → Prop} {y : Nat} {is : List xI} {lv st : List Value} {o : xO} {i : Instr} {len a b : Nat} {v : Value}
theorem RW.mono {Q' : xR → xO → Prop} (h : RW Q y is lv st o) (hQ : ∀ r o', Q r o' → Q' r o') : RW Q' y is lv st o := by
  obtain ⟨n, r, o', h1, h2⟩ := h
  exact ⟨n, r, o', h1, hQ r o' h2⟩
theorem RW.pu {lv' st' : List Value} (hg : xgo i b = 0) (h : xpu i v a lv st = some (lv', st')) (k : RW Q y is lv' st' o) : RW Q y ((i, len, v, a, b) :: is) lv st o := by
  obtain ⟨n, r, o', h1, h2⟩ := k
  exact ⟨n + 1, r, o', by rw [xex]; simp only [hg, h]; exact h1, h2⟩
theorem RW.ps (k : Nat) {is' : List xI} {lv' st' : List Value} (h : xps k is lv st = some (is', lv', st')) (kk : RW Q y is' lv' st' o) : RW Q y is lv st o := by
  induction k generalizing is lv st with
  | zero => cases h; exact kk
  | succ k ih =>
    cases is with
    | nil => cases h
    | cons e is =>
      obtain ⟨i, len, v, a, b⟩ := e
      rw [xps] at h
      cases hg : xgo i b with
      | succ g => rw [hg] at h; cases h
      | zero =>
        rw [hg] at h
        try dsimp only at h
        cases hq : xpu i v a lv st with
        | none => rw [hq] at h; cases h
        | some q => rw [hq] at h; exact RW.pu hg (lv' := q.1) (st' := q.2) hq (ih h)
theorem RW.hp {st' : List Value} {o1 : xO} (hg : xgo i b = 1) (h : xhp i a b st o = some (st', o1)) (k : RW Q y is lv st' o1) : RW Q y ((i, len, v, a, b) :: is) lv st o := by
  obtain ⟨n, r, o', h1, h2⟩ := k
  exact ⟨n + 1, r, o', by rw [xex]; simp only [hg, h]; exact h1, h2⟩
theorem RW.br {c : Bool} {t : Nat} {st' : List Value} (hg : xgo i b = 2) (h : xbr i a st = some (c, t, st')) (k1 : c = true → RW Q y (xbk y t) lv st' o) (k2 : c = false → RW Q y is lv st' o) : RW Q y ((i, len, v, a, b) :: is) lv st o := by
  cases c with
  | true =>
    obtain ⟨n, r, o', h1, h2⟩ := k1 rfl
    exact ⟨n + 1, r, o', by rw [xex]; simp only [hg, h]; exact h1, h2⟩
  | false =>
    obtain ⟨n, r, o', h1, h2⟩ := k2 rfl
    exact ⟨n + 1, r, o', by rw [xex]; simp only [hg, h]; exact h1, h2⟩
theorem RW.ifc {c : Jvm.ClassFile.Cond} {off : Int} {x : Int32} {r : List Value} (k1 : xcd c x 0 → RW Q y (xbk y a) lv r o) (k2 : ¬ xcd c x 0 → RW Q y is lv r o) : RW Q y ((.ifCond c off, len, v, a, b) :: is) lv (.int x :: r) o :=
  RW.br rfl rfl (fun h => k1 ((xcb_iff c x 0).mp h)) (fun h => k2 (fun g => by rw [(xcb_iff c x 0).mpr g] at h; cases h))
theorem RW.icm {c : Jvm.ClassFile.Cond} {off : Int} {x w : Int32} {r : List Value} (k1 : xcd c x w → RW Q y (xbk y a) lv r o) (k2 : ¬ xcd c x w → RW Q y is lv r o) : RW Q y ((.if_icmp c off, len, v, a, b) :: is) lv (.int w :: .int x :: r) o :=
  RW.br rfl rfl (fun h => k1 ((xcb_iff c x w).mp h)) (fun h => k2 (fun g => by rw [(xcb_iff c x w).mpr g] at h; cases h))
theorem RW.go {off : Int} (k : RW Q y (xbk y a) lv st o) : RW Q y ((.goto off, len, v, a, b) :: is) lv st o :=
  RW.br (t := a) rfl rfl (fun _ => k) (fun h => by cases h)
theorem RW.re {r : Option Value} (hg : xgo i b = 3) (h : xre (xrt y) i st = some r) (k : Q (.inl r) o) : RW Q y ((i, len, v, a, b) :: is) lv st o :=
  ⟨1, .inl r, o, by rw [xex]; simp only [hg, h], k⟩
theorem RW.th (hg : xgo i b = 4) (k : Q (.inr (xnr v)) (xth o)) : RW Q y ((i, len, v, a, b) :: is) lv [] o :=
  ⟨1, .inr (xnr v), xth o, by rw [xex]; simp only [hg]; rfl, k⟩
theorem RW.ca {Q1 : xR → xO → Prop} (args rest : List Value) (hg : xgo i b = 5) (h1 : xtk (xnr v) [] st = some (args, rest)) (h2 : xrc b o args = true) (h3 : Nat.ble (xsum rest) 8 = true) (h4 : Nat.ble (xsl args).length (xml a) = true) (hc : Ct a args o Q1)
    (hk : ∀ r o', Q1 r o' → xkt Q y is lv rest r o') : RW Q y ((i, len, v, a, b) :: is) lv st o := by
  obtain ⟨n1, r1, o1, e1, q1⟩ := hc
  have k := hk r1 o1 q1
  unfold xkt at k
  cases r1 with
  | inl r =>
    obtain ⟨n2, r2, o2, e2, q2⟩ := k
    refine ⟨max n1 n2 + 1, r2, o2, ?_, q2⟩
    rw [xex]
    simp only [hg, h1, h2, h3, h4, Bool.and_self, xex_le (Nat.le_max_left n1 n2) e1]
    exact xex_le (Nat.le_max_right n1 n2) e2
  | inr E =>
    dsimp only at k
    cases hf : xfn (xhd y) E with
    | some h =>
      rw [hf] at k
      obtain ⟨n2, r2, o2, e2, q2⟩ := k
      refine ⟨max n1 n2 + 1, r2, o2, ?_, q2⟩
      rw [xex]
      simp only [hg, h1, h2, h3, h4, Bool.and_self, xex_le (Nat.le_max_left n1 n2) e1, hf]
      exact xex_le (Nat.le_max_right n1 n2) e2
    | none =>
      rw [hf] at k
      refine ⟨n1 + 1, .inr E, o1, ?_, k.2⟩
      rw [xex]
      simp only [hg, h1, h2, h3, h4, Bool.and_self, e1, hf, k.1]
end RWrows
/-! a trial: Row.isZero -/
theorem trial_isZero (o : xO) (r : Nat) (u : Int32) (hk : xk o r = (3, 2)) (hu : xf o r 1 = .int u) : Ct y_Row_isZero [.ref r] o (fun w o' => w = .inl (some (.int (if u = 0 then 1 else 0))) ∧ o' = o) := by
  refine RW.ps 1 rfl ?_
  refine RW.hp rfl (by rw [xhp]; simp only [hk, if_true]; rfl) ?_
  rw [hu]
  refine RW.ifc (fun h => ?_) (fun h => ?_)
  · refine RW.ps 1 rfl ?_
    have h : ¬ u = 0 := h
    rw [if_neg h]
    exact RW.re rfl rfl ⟨rfl, rfl⟩
  · refine RW.ps 1 rfl ?_
    have h : u = 0 := Classical.not_not.mp h
    rw [if_pos h]
    refine RW.go ?_
    exact RW.re rfl rfl ⟨rfl, rfl⟩
