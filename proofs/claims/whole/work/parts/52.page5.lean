/-! PAGE: write. -/
theorem dgl_stab {b n k x : Nat} (h : x < b ^ n) : dgl b (n + k) x = dgl b n x := by
  rw [dgl_add, Nat.div_eq_of_lt h, dgl_0, List.append_nil]
/-- what is written of a number, the last character first -/
def pr (z : Int) (b : Nat) : List Int32 := (if z = 0 then [48] else dgl b 8192 z.natAbs) ++ (if z < 0 then [45] else [])
theorem top_pow {b : Nat} (hb : 2 ≤ b) : TOP ≤ b ^ 8192 := Nat.pow_le_pow_left hb 8192
theorem dgl_cut {b n x : Nat} (hb : 2 ≤ b) (hx : x < TOP) (hn : n ≤ 8192) : dgl b 8192 x = dgl b n x ++ dgl b 8192 (x / b ^ n) := by
  obtain ⟨k, hk⟩ : ∃ k, 8192 = n + k := ⟨8192 - n, by omega⟩
  have h1 : x / b ^ n < b ^ k := by
    rw [Nat.div_lt_iff_lt_mul (Nat.pow_pos (by omega)), Nat.mul_comm, ← Nat.pow_add, ← hk]
    exact Nat.lt_of_lt_of_le hx (top_pow hb)
  have h2 : dgl b 8192 (x / b ^ n) = dgl b k (x / b ^ n) := by
    rw [show 8192 = k + n by omega]; exact dgl_stab h1
  rw [h2, ← dgl_add, ← hk]
theorem fr_up4 {g : Nat} {o o' : xO} (h : Fr [(g, 2)] o o') : Fr [(g, 4)] o o' := h.up (fun b hb => ⟨by have := hb.1; dsimp only at this ⊢; omega, trivial⟩)
theorem fr_up4r {g : Nat} {o o' : xO} (h : Fr [(g + 2, 2)] o o') : Fr [(g, 4)] o o' := h.up (fun b hb => ⟨by have := hb.1; dsimp only at this ⊢; omega, trivial⟩)
theorem c_write {o : xO} {g w b y : Nat} {z : Int} {bw : Int32} {l : List Int32} (h : Px o g l) (hr : Rn o (g + 2) y) (hw : Wn o w z) (hwg : w + 3 ≤ g ∨ g + 4 ≤ w) (hb : bw.toInt = (b : Int)) (hb2 : 2 ≤ b) (hb3 : b ≤ 36) (hz : z.natAbs < TOP) :
    Cv y_Page_write [.ref g, .ref w, .int bw] o (fun o' => Fr [(g, 4)] o o' ∧ Px o' g (pr z b) ∧ Rx o' (g + 2)) := by
  have hbw := i_of hb
  have ow : Out [(g, 4)] w := ⟨by dsimp only; omega, trivial⟩
  have ow1 : Out [(g, 4)] (w + 1) := ⟨by dsimp only; omega, trivial⟩
  have ow2 : Out [(g, 4)] (w + 2) := ⟨by dsimp only; omega, trivial⟩
  have h119 : ∀ o5 lv3 lv4 lv5, Fr [(g, 4)] o o5 → Px o5 g (if z = 0 then [48] else dgl b 8192 z.natAbs) → Rx o5 (g + 2) → RW (fun r o' => r = .inl none ∧ (Fr [(g, 4)] o o' ∧ Px o' g (pr z b) ∧ Rx o' (g + 2))) y_Page_write (xbk y_Page_write 119) [.ref g, .ref w, .int bw, lv3, lv4, lv5] [] o5 := by
    intro o5 lv3 lv4 lv5 hf hp hx
    have hw5 := hw.fr hf ow ow1 ow2
    refine RW.ps 1 rfl ?_
    refine RW.gf hw5.1 hw5.2.2.2 ?_
    rcases sgn_cases z with ⟨h1, h2⟩ | ⟨h1, h2⟩
    · rw [h1]
      refine RW.ifc (fun k => absurd (xi_eq.mp k) (by decide)) (fun _ => ?_)
      refine RW.ps 2 rfl ?_
      have hlen : (if z = 0 then [48] else dgl b 8192 z.natAbs : List Int32).length < 8193 := by
        rw [if_neg (by omega)]; have := dgl_len b 8192 z.natAbs; omega
      refine RW.cv rfl rfl (xrc_v rfl rfl hp.1) rfl rfl (c_pageAdd hp hlen) ?_
      intro o6 ⟨hf6, hp6⟩
      obtain ⟨v, hx⟩ := hx
      refine RW.re rfl rfl ⟨rfl, hf.trans (fr_up4 hf6), ?_, v, hx.fr hf6 ⟨by dsimp only; omega, trivial⟩ ⟨by dsimp only; omega, trivial⟩⟩
      unfold pr; rw [if_pos h2]; exact hp6
    · rw [h1]
      refine RW.ifc (fun _ => ?_) (fun k => absurd (xi_eq.mpr rfl) k)
      refine RW.re rfl rfl ⟨rfl, hf, ?_, hx⟩
      unfold pr; rw [if_neg (show ¬ z < 0 by omega), List.append_nil]; exact hp
  have h78 : ∀ d : Nat, 0 < d → d ≤ 31 → b ^ d ≤ 2147483647 → ∀ (m : Nat) (iw : Int32) (X : Nat) l', iw.toInt + (m : Int) ≤ 8193 → 0 ≤ iw.toInt → X < 2 ^ m → X < TOP → l' ++ dgl b 8192 X = (if z = 0 then [48] else dgl b 8192 z.natAbs) → ∀ o5, Fr [(g, 4)] o o5 → Px o5 g l' → Rn o5 (g + 2) X →
      RW (fun r o' => r = .inl none ∧ (Fr [(g, 4)] o o' ∧ Px o' g (pr z b) ∧ Rx o' (g + 2))) y_Page_write (xbk y_Page_write 78) [.ref g, .ref w, .int bw, .int (Int32.ofInt (d : Nat)), .int (Int32.ofInt ((b ^ d : Nat) : Int)), .int iw] [] o5 := by
    intro d hd hd2 hbd m
    induction m with
    | zero =>
      intro iw X l' hi hi0 hX hXT hl o5 hf hp hx
      have hX0 : X = 0 := by rw [Nat.pow_zero] at hX; omega
      subst hX0
      rw [dgl_0, List.append_nil] at hl
      rw [hl] at hp
      refine RW.ps 2 rfl ?_
      refine RW.gf hp.1 hp.2.1 ?_
      refine RW.al hp.2.2.2.1 ?_
      refine RW.icm (fun _ => ?_) (fun _ => ?_)
      · exact h119 o5 _ _ _ hf hp ⟨_, hx⟩
      refine RW.ps 1 rfl ?_
      refine RW.gf hp.1 hp.2.2.1 ?_
      refine RW.cp rfl rfl (xrc_v rfl rfl hx.1.1) rfl rfl (c_isZero hx) ?_
      rw [if_pos rfl]
      refine RW.ifc (fun _ => ?_) (fun h2 => absurd (xi_ne.mpr (by decide)) h2)
      exact h119 o5 _ _ _ hf hp ⟨_, hx⟩
    | succ m ih =>
      intro iw X l' hi hi0 hX hXT hl o5 hf hp hx
      refine RW.ps 2 rfl ?_
      refine RW.gf hp.1 hp.2.1 ?_
      refine RW.al hp.2.2.2.1 ?_
      refine RW.icm (fun k => ?_) (fun _ => ?_)
      · rw [xi_ge, show (Int32.ofNat 8193).toInt = 8193 from rfl] at k; omega
      refine RW.ps 1 rfl ?_
      refine RW.gf hp.1 hp.2.2.1 ?_
      refine RW.cp rfl rfl (xrc_v rfl rfl hx.1.1) rfl rfl (c_isZero hx) ?_
      by_cases hX0 : X = 0
      · subst hX0
        rw [dgl_0, List.append_nil] at hl
        rw [hl] at hp
        rw [if_pos rfl]
        refine RW.ifc (fun _ => ?_) (fun h2 => absurd (xi_ne.mpr (by decide)) h2)
        exact h119 o5 _ _ _ hf hp ⟨_, hx⟩
      rw [if_neg hX0]
      refine RW.ifc (fun h2 => absurd rfl (xi_ne.mp h2)) (fun _ => ?_)
      have hcut := dgl_cut hb2 hXT (show d ≤ 8192 by omega)
      have hG2 : 2 ≤ b ^ d := by
        have h1 : b ^ 1 ≤ b ^ d := Nat.pow_le_pow_right (by omega) hd
        rw [Nat.pow_one] at h1; omega
      refine RW.weak (lv0 := [.ref g, .ref w, .int bw, .int (Int32.ofInt (d : Nat)), .int (Int32.ofInt ((b ^ d : Nat) : Int)), .int iw]) ⟨Or.inr rfl, Or.inr rfl, Or.inr rfl, Or.inr rfl, Or.inr rfl, Or.inr rfl, trivial⟩ ?_
      refine RW.sk [] rfl ?_
      refine RW.ps 2 rfl ?_
      refine RW.gf hp.1 hp.2.2.1 ?_
      refine RW.ps 1 rfl ?_
      refine RW.cq rfl rfl (xrc_v rfl rfl hx.1.1) rfl rfl (c_partBy hx (iu (u := b ^ d) (by omega)) (by omega)) ?_
      intro v o6 ⟨hv, ho6⟩
      subst hv
      have hxB : X / b ^ d < BIG := Nat.lt_of_le_of_lt (Nat.div_le_self _ _) hx.2.1
      have hf6 : Fr [(g, 4)] o o6 := by subst ho6; exact hf.trans (fr_up4r Fr.num)
      have hp6 : Px o6 g l' := by subst ho6; exact hp.fr Fr.num ⟨by dsimp only; omega, trivial⟩ ⟨by dsimp only; omega, trivial⟩
      have hx6 : Rn o6 (g + 2) (X / b ^ d) := by subst ho6; exact Rn.num hx hxB
      have hXe : X / b ^ d * b ^ d + X % b ^ d = X := by rw [Nat.mul_comm]; exact Nat.div_add_mod _ _
      have hlen : l'.length + (dgl b d (X / b ^ d * b ^ d + X % b ^ d)).length ≤ 8193 := by
        rw [hXe]
        have h1 := congrArg List.length hl
        rw [hcut, List.length_append, List.length_append] at h1
        have h2 : (if z = 0 then [48] else dgl b 8192 z.natAbs : List Int32).length ≤ 8192 := by
          by_cases hz0 : z = 0
          · rw [if_pos hz0]; decide
          · rw [if_neg hz0]; exact dgl_len _ _ _
        omega
      have hmod := Nat.mod_lt X (show 0 < b ^ d by omega)
      refine RW.ps 2 rfl ?_
      refine RW.cv rfl rfl (xrc_v rfl rfl hp6.1) rfl rfl (c_addGroup hp6 hx6 (iu (u := X % b ^ d) (by omega)) hb (iu (u := d) (by omega)) hb2 hb3 (by omega) hmod (by omega) hlen) ?_
      intro o7 ⟨hf7, hp7⟩
      rw [hXe] at hp7
      have hx7 := hx6.fr hf7 ⟨by dsimp only; omega, trivial⟩ ⟨by dsimp only; omega, trivial⟩
      refine RW.ps 1 rfl ?_
      refine RW.go ?_
      have hh : X / b ^ d ≤ X / 2 := Nat.div_le_div_left hG2 (by decide)
      refine ih (iw + 1) (X / b ^ d) (l' ++ dgl b d X) ?_ ?_ ?_ (by omega) ?_ o7 (hf6.trans (fr_up4 hf7)) hp7 hx7
      · have := i_succ (i := iw) (k := iw.toInt.toNat) (by omega) (by omega); omega
      · have := i_succ (i := iw) (k := iw.toInt.toNat) (by omega) (by omega); omega
      · rw [Nat.pow_succ] at hX; omega
      · rw [List.append_assoc, ← hcut]; exact hl
  have h40 : ∀ o5, Fr [(g, 4)] o o5 → Px o5 g (if z = 0 then [48] else []) → Rn o5 (g + 2) z.natAbs → ∀ m (d : Nat), d + m = 31 → b ^ d ≤ 2147483647 →
      RW (fun r o' => r = .inl none ∧ (Fr [(g, 4)] o o' ∧ Px o' g (pr z b) ∧ Rx o' (g + 2))) y_Page_write (xbk y_Page_write 40) [.ref g, .ref w, .int bw, .int (Int32.ofInt (d : Nat)), .int (Int32.ofInt ((b ^ d : Nat) : Int)), .int (Int32.ofInt (d : Nat))] [] o5 := by
    intro o5 hf hp hx
    have h75 : ∀ d : Nat, 0 < d → d ≤ 31 → b ^ d ≤ 2147483647 → RW (fun r o' => r = .inl none ∧ (Fr [(g, 4)] o o' ∧ Px o' g (pr z b) ∧ Rx o' (g + 2))) y_Page_write (xbk y_Page_write 75) [.ref g, .ref w, .int bw, .int (Int32.ofInt (d : Nat)), .int (Int32.ofInt ((b ^ d : Nat) : Int)), .int (Int32.ofInt (d : Nat))] [] o5 := by
      intro d hd hd2 hbd
      refine RW.ps 2 rfl ?_
      refine RW.weak (lv0 := [.ref g, .ref w, .int bw, .int (Int32.ofInt (d : Nat)), .int (Int32.ofInt ((b ^ d : Nat) : Int)), .int 0]) ⟨Or.inr rfl, Or.inr rfl, Or.inr rfl, Or.inr rfl, Or.inr rfl, Or.inr rfl, trivial⟩ ?_
      refine RW.sk [] rfl ?_
      refine h78 d hd hd2 hbd 8192 0 z.natAbs (if z = 0 then [48] else []) (by decide) (by decide) ?_ hz ?_ o5 hf hp hx
      · exact hz
      · by_cases hz0 : z = 0
        · rw [if_pos hz0, if_pos hz0, hz0, show (0 : Int).natAbs = 0 from rfl, dgl_0, List.append_nil]
        · rw [if_neg hz0, if_neg hz0]; rfl
    intro m
    induction m with
    | zero =>
      intro d hd hbd
      refine RW.ps 2 rfl ?_
      refine RW.icm (fun _ => ?_) (fun k => ?_)
      · exact h75 d (by omega) (by omega) hbd
      · rw [xi_ge, iu (by omega), show (31 : Int32).toInt = 31 from rfl] at k; omega
    | succ m ih =>
      intro d hd hbd
      have hG : ((b ^ (d + 1) : Nat) : Int) = ((b ^ d : Nat) : Int) * (b : Int) := by rw [Nat.pow_succ]; exact Int.natCast_mul _ _
      have hG3 : b ^ (d + 1) = b ^ d * b := Nat.pow_succ ..
      have hG2 : b ^ (d + 1) < 2 ^ 63 := by
        rw [hG3]
        have h1 := Nat.mul_le_mul hbd hb3
        omega
      have e0 : Int32.ofInt ((d + 1 : Nat) : Int) = Int32.ofInt (d : Nat) + 1 := by rw [show (1 : Int32) = Int32.ofInt 1 by decide, ii_add]; rfl
      refine RW.ps 2 rfl ?_
      refine RW.icm (fun k => ?_) (fun _ => ?_)
      · rw [xi_ge, iu (by omega), show (31 : Int32).toInt = 31 from rfl] at k; omega
      refine RW.ps 7 rfl ?_
      refine RW.top (congrArg Value.int ((show lg_cmp ((Int32.ofInt ((b ^ d : Nat) : Int)).toInt64 * bw.toInt64) 2147483647 = lg_cmp (Int64.ofInt ((b ^ (d + 1) : Nat) : Int)) (Int64.ofInt ((2147483647 : Nat) : Int)) by rw [hG, hbw, ii_l (by omega) (by omega), ii_l (by omega) (by omega), li_mul]; rfl))) ?_
      refine RW.ifc (fun k => ?_) (fun k => ?_)
      · rw [lcmp_gt hG2 (by decide)] at k
        refine h75 d (Nat.pos_of_ne_zero (fun h0 => ?_)) (by omega) hbd
        rw [h0, Nat.pow_one] at k; omega
      · rw [lcmp_gt hG2 (by decide)] at k
        refine RW.ps 6 rfl ?_
        refine RW.go ?_
        refine RW.weak (lv0 := [.ref g, .ref w, .int bw, .int (Int32.ofInt ((d + 1 : Nat) : Int)), .int (Int32.ofInt ((b ^ (d + 1) : Nat) : Int)), .int (Int32.ofInt ((d + 1 : Nat) : Int))]) ⟨Or.inr rfl, Or.inr rfl, Or.inr rfl, Or.inr (congrArg Value.int e0), Or.inr (congrArg Value.int (by rw [hG, hbw, ii_mul])), Or.inr (congrArg Value.int e0), trivial⟩ ?_
        refine RW.sk [] rfl ?_
        exact ih (d + 1) (by omega) (by omega)
  have h32 : ∀ o5 lv3 lv4 lv5, Fr [(g, 4)] o o5 → Px o5 g (if z = 0 then [48] else []) → Rn o5 (g + 2) z.natAbs → RW (fun r o' => r = .inl none ∧ (Fr [(g, 4)] o o' ∧ Px o' g (pr z b) ∧ Rx o' (g + 2))) y_Page_write (xbk y_Page_write 32) [.ref g, .ref w, .int bw, lv3, lv4, lv5] [] o5 := by
    intro o5 lv3 lv4 lv5 hf hp hx
    refine RW.ps 6 rfl ?_
    refine RW.weak (lv0 := [.ref g, .ref w, .int bw, .int 0, .int 1, .int 0]) ⟨Or.inr rfl, Or.inr rfl, Or.inr rfl, Or.inr rfl, Or.inr rfl, Or.inr rfl, trivial⟩ ?_
    refine RW.sk [] rfl ?_
    have := h40 o5 hf hp hx 31 0 rfl (by rw [Nat.pow_zero]; decide)
    rw [Nat.pow_zero] at this
    exact this
  refine RW.ps 2 rfl ?_
  refine RW.pf h.1 rfl rfl ?_
  have k1 : Fr [(g, 2)] o (xpf o g 2 (.int 0)) := Fr.up Fr.pf (fun b hb => ⟨by have := hb.1; dsimp only at this ⊢; omega, trivial⟩)
  have p1 : Px (xpf o g 2 (.int 0)) g [] := ⟨h.1, (xpf_ne (fun _ => by decide)).trans h.2.1, (xpf_ne (fun _ => by decide)).trans h.2.2.1, h.2.2.2.1, Nat.zero_le _, xpf_same, fun i hi => absurd hi (Nat.not_lt_zero i)⟩
  generalize xpf o g 2 (.int 0) = o1 at k1 p1 ⊢
  have r1 := hr.fr k1 ⟨by dsimp only; omega, trivial⟩ ⟨by dsimp only; omega, trivial⟩
  have w1 := hw.fr k1 ⟨by dsimp only; omega, trivial⟩ ⟨by dsimp only; omega, trivial⟩ ⟨by dsimp only; omega, trivial⟩
  refine RW.ps 1 rfl ?_
  refine RW.gf p1.1 p1.2.2.1 ?_
  refine RW.ps 1 rfl ?_
  refine RW.gf w1.1 w1.2.1 ?_
  refine RW.cv rfl rfl (xrc_v rfl rfl r1.1.1) rfl rfl (c_become r1 w1.2.2.1) ?_
  intro o2 ho2
  have k2 : Fr [(g, 4)] o o2 := by subst ho2; exact (fr_up4 k1).trans (fr_up4r Fr.num)
  have p2 : Px o2 g [] := by subst ho2; exact p1.fr Fr.num ⟨by dsimp only; omega, trivial⟩ ⟨by dsimp only; omega, trivial⟩
  have r2 : Rn o2 (g + 2) z.natAbs := by subst ho2; exact Rn.num r1 w1.2.2.1.2.1
  clear ho2
  refine RW.ps 1 rfl ?_
  refine RW.gf p2.1 p2.2.2.1 ?_
  refine RW.cp rfl rfl (xrc_v rfl rfl r2.1.1) rfl rfl (c_isZero r2) ?_
  by_cases hz0 : z = 0
  · rw [if_pos (show z.natAbs = 0 by omega)]
    refine RW.ifc (fun h2 => absurd (xi_eq.mp h2) (by decide)) (fun _ => ?_)
    refine RW.ps 2 rfl ?_
    refine RW.cv rfl rfl (xrc_v rfl rfl p2.1) rfl rfl (c_pageAdd p2 (by decide)) ?_
    intro o3 ⟨k3, p3⟩
    refine h32 o3 _ _ _ (k2.trans (fr_up4 k3)) ?_ (r2.fr k3 ⟨by dsimp only; omega, trivial⟩ ⟨by dsimp only; omega, trivial⟩)
    rw [if_pos hz0]; exact p3
  · rw [if_neg (show ¬ z.natAbs = 0 by omega)]
    refine RW.ifc (fun _ => ?_) (fun h2 => absurd (xi_eq.mpr rfl) h2)
    refine h32 o2 _ _ _ k2 ?_ r2
    rw [if_neg hz0]; exact p2
