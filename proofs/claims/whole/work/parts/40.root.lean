/-! ROOTS: Newton's guesses. -/
def nxt (x a : Nat) : Nat := (x / a + a) / 2
/-- within N guesses from a the root s is reached -/
def Con (x s : Nat) : Nat → Nat → Prop
  | 0, a => a = s
  | N + 1, a => (a = 0 ∧ s = 0) ∨ (0 < a ∧ ((nxt x a < a ∧ Con x s N (nxt x a)) ∨ (¬ nxt x a < a ∧ a = s)))
theorem con_step {x s N d : Nat} (hs : s * s ≤ x) (hx : x < (s + 1) * (s + 1)) (h0 : 0 < s) (h : ∀ d', d' < d → 2 * (d' - 1) * (s + d) ≤ d * d → Con x s N (s + d')) : Con x s (N + 1) (s + d) := by
  refine Or.inr ⟨by omega, ?_⟩
  have ha : 0 < s + d := by omega
  have hge : s ≤ nxt x (s + d) := by
    unfold nxt
    rcases Nat.lt_or_ge s d with h1 | h1
    · generalize x / (s + d) = q; omega
    · have h2 : s - d ≤ x / (s + d) := by
        rw [Nat.le_div_iff_mul_le ha]
        refine Nat.le_trans ?_ hs
        obtain ⟨t, rfl⟩ : ∃ t, s = d + t := ⟨s - d, by omega⟩
        rw [Nat.add_sub_cancel_left]
        have e1 : t * (d + t + d) = t * t + 2 * (t * d) := by grind
        have e2 : (d + t) * (d + t) = t * t + 2 * (t * d) + d * d := by grind
        omega
      omega
  by_cases hc : nxt x (s + d) < s + d
  · refine Or.inl ⟨hc, ?_⟩
    obtain ⟨d', hd'⟩ : ∃ d', nxt x (s + d) = s + d' := ⟨nxt x (s + d) - s, by omega⟩
    rw [hd']
    refine h d' (by omega) ?_
    have h3 : 2 * (s + d') ≤ x / (s + d) + (s + d) := by rw [← hd']; unfold nxt; omega
    have h4 : 2 * (s + d') * (s + d) ≤ x + (s + d) * (s + d) := by
      refine Nat.le_trans (Nat.mul_le_mul_right _ h3) ?_
      rw [Nat.add_mul]
      have := Nat.div_mul_le_self x (s + d)
      omega
    have h5 : (s + 1) * (s + 1) = s * s + 2 * s + 1 := by grind
    rcases Nat.eq_zero_or_pos d' with z | z
    · subst z; simp
    · obtain ⟨f, rfl⟩ : ∃ f, d' = f + 1 := ⟨d' - 1, by omega⟩
      rw [Nat.add_sub_cancel]
      have e3 : 2 * (s + (f + 1)) * (s + d) = 2 * f * (s + d) + 2 * (s * s) + 2 * (s * d) + 2 * s + 2 * d := by grind
      have e4 : (s + d) * (s + d) = s * s + 2 * (s * d) + d * d := by grind
      omega
  · refine Or.inr ⟨hc, ?_⟩
    have h6 : s + d ≤ x / (s + d) := by unfold nxt at hc; omega
    rw [Nat.le_div_iff_mul_le ha] at h6
    have h7 : (s + d) < s + 1 := Nat.lt_of_not_le (fun k => by have := Nat.mul_le_mul k k; omega)
    omega
theorem con_small {x s : Nat} (hs : s * s ≤ x) (hx : x < (s + 1) * (s + 1)) (h0 : 0 < s) : ∀ N d, d < N → Con x s N (s + d) := by
  intro N
  induction N with
  | zero => intro d h; omega
  | succ N ih =>
    intro d h
    exact con_step hs hx h0 (fun d' h1 _ => ih d' (by omega))
def qd : Nat → Nat → Nat
  | 0, c => c
  | j + 1, c => qd j (2 * c - 1)
theorem con_quad {x s : Nat} (hs : s * s ≤ x) (hx : x < (s + 1) * (s + 1)) (h0 : 0 < s) : ∀ j c d, (d - 1) * 2 ^ c ≤ s → 2 ≤ c → s < 2 ^ qd j c → Con x s (j + 3) (s + d) := by
  intro j
  induction j with
  | zero =>
    intro c d h hc hq
    refine con_small hs hx h0 3 d ?_
    have h1 : (d - 1) * 2 ^ c < 1 * 2 ^ c := by rw [Nat.one_mul]; exact Nat.lt_of_le_of_lt h hq
    have := Nat.lt_of_mul_lt_mul_right h1
    omega
  | succ j ih =>
    intro c d h hc hq
    refine con_step hs hx h0 (fun d' h1 h2 => ih (2 * c - 1) d' ?_ (by omega) hq)
    generalize hf : d' - 1 = f' at h2 ⊢
    rcases Nat.lt_or_ge d 2 with h3 | h3
    · have h4 : f' = 0 := by
        rcases Nat.eq_zero_or_pos f' with z | z
        · exact z
        · exfalso
          omega
      rw [h4, Nat.zero_mul]; omega
    · obtain ⟨f, rfl⟩ : ∃ f, d = f + 1 := ⟨d - 1, by omega⟩
      rw [Nat.add_sub_cancel] at h
      have h5 : f' * s ≤ 2 * (f * f) := by
        have e1 : 2 * f' * (s + (f + 1)) = 2 * (f' * s) + 2 * (f' * (f + 1)) := by grind
        have e2 : (f + 1) * (f + 1) = f * f + 2 * f + 1 := by grind
        have e3 : f * 1 ≤ f * f := Nat.mul_le_mul_left _ (by omega)
        omega
      have e4 : 2 ^ c * 2 ^ c = 2 * 2 ^ (2 * c - 1) := by rw [← Nat.pow_add, ← Nat.pow_succ']; congr 1; omega
      have h6 : f' * s * (2 ^ c * 2 ^ c) ≤ 2 * (s * s) := by
        refine Nat.le_trans (Nat.mul_le_mul_right _ h5) ?_
        rw [show 2 * (f * f) * (2 ^ c * 2 ^ c) = 2 * ((f * 2 ^ c) * (f * 2 ^ c)) by ac_rfl]
        exact Nat.mul_le_mul_left _ (Nat.mul_le_mul h h)
      rw [e4, show f' * s * (2 * 2 ^ (2 * c - 1)) = f' * 2 ^ (2 * c - 1) * (2 * s) by ac_rfl, show 2 * (s * s) = s * (2 * s) by ac_rfl] at h6
      exact Nat.le_of_mul_le_mul_right h6 (by omega)
theorem con_lin {x s N d : Nat} (hs : s * s ≤ x) (hx : x < (s + 1) * (s + 1)) (h0 : 0 < s) (h : ∀ d', d' < d → 2 * (d' - 1) ≤ d → Con x s N (s + d')) : Con x s (N + 1) (s + d) := by
  refine con_step hs hx h0 (fun d' h1 h2 => h d' h1 ?_)
  have h3 : 2 * (d' - 1) * (s + d) ≤ d * (s + d) := Nat.le_trans h2 (Nat.mul_le_mul_left _ (by omega))
  exact Nat.le_of_mul_le_mul_right h3 (by omega)
theorem con_all {x s a : Nat} (hs : s * s ≤ x) (hx : x < (s + 1) * (s + 1)) (hsT : s < 2 ^ 8193) (ha : s ≤ a) (ha2 : a ≤ 2 * s + 1) : Con x s 1000 a := by
  rcases Nat.eq_zero_or_pos s with z | h0
  · subst z
    have hx0 : x = 0 := by omega
    subst hx0
    rcases Nat.eq_zero_or_pos a with z | z
    · exact Or.inl ⟨z, rfl⟩
    · have : a = 1 := by omega
      subst this
      exact Or.inr ⟨z, Or.inl ⟨by decide, Or.inl ⟨by decide, rfl⟩⟩⟩
  · obtain ⟨d, rfl⟩ : ∃ d, a = s + d := ⟨a - s, by omega⟩
    rcases Nat.lt_or_ge s 7 with h7 | h7
    · exact con_small hs hx h0 1000 d (by omega)
    · refine con_lin hs hx h0 (fun d1 _ h1 => con_lin hs hx h0 (fun d2 _ h2 => con_lin hs hx h0 (fun d3 _ h3 => ?_)))
      have hm : ∀ N a, N ≤ 997 → Con x s N a → Con x s 997 a := by
        have mono : ∀ N a, Con x s N a → Con x s (N + 1) a := by
          intro N
          induction N with
          | zero =>
            intro a h
            have e : a = s + 0 := h
            rw [e]
            exact con_small hs hx h0 1 0 (by omega)
          | succ N ih =>
            intro a h
            rcases h with h | ⟨h, h1 | h1⟩
            · exact Or.inl h
            · exact Or.inr ⟨h, Or.inl ⟨h1.1, ih _ h1.2⟩⟩
            · exact Or.inr ⟨h, Or.inr h1⟩
        intro N a hN h
        obtain ⟨k, hk⟩ : ∃ k, 997 = N + k := ⟨997 - N, by omega⟩
        rw [hk]
        clear hk hN
        induction k with
        | zero => exact h
        | succ k ih => exact mono _ _ ih
      refine hm 16 _ (by omega) (con_quad hs hx h0 13 2 d3 ?_ (by omega) ?_)
      · omega
      · rw [show qd 13 2 = 8193 by decide]; exact hsT
theorem nbit_ge {x k : Nat} (h : k < nbit x) : 2 ^ k ≤ x := by
  rcases Nat.lt_or_ge x (2 ^ k) with h1 | h1
  · have := nbit_le.mpr h1; omega
  · exact h1
/-- the first guess -/
theorem root_first {x s : Nat} (hs : s * s ≤ x) (hx : x < (s + 1) * (s + 1)) : s ≤ 2 ^ ((nbit x + 1) / 2) ∧ 2 ^ ((nbit x + 1) / 2) ≤ 2 * s + 1 := by
  rcases Nat.eq_zero_or_pos x with z | z
  · subst z
    have hs0 : s = 0 := by
      rcases Nat.eq_zero_or_pos s with z | z
      · exact z
      · have := Nat.mul_le_mul z z; omega
    subst hs0
    rw [nbit_0]; decide
  have hl := nbit_self x
  have hu : 2 ^ (nbit x - 1) ≤ x := nbit_ge (by have := nbit_pos (x := x) (by omega); omega)
  generalize nbit x = b at hl hu
  have e1 : 2 ^ ((b + 1) / 2) * 2 ^ ((b + 1) / 2) = 2 ^ (2 * ((b + 1) / 2)) := by rw [← Nat.pow_add]; congr 1; omega
  have h1 : 2 ^ b ≤ 2 ^ (2 * ((b + 1) / 2)) := Nat.pow_le_pow_right (by decide) (by omega)
  constructor
  · apply Nat.le_of_not_lt
    intro h
    have := Nat.mul_le_mul (Nat.le_of_lt h) (Nat.le_of_lt h)
    omega
  · have h3 : 2 ^ (2 * ((b + 1) / 2)) ≤ 4 * 2 ^ (b - 1) := by
      rw [show 4 = 2 ^ 2 from rfl, ← Nat.pow_add]
      exact Nat.pow_le_pow_right (by decide) (by omega)
    apply Nat.le_of_not_lt
    intro h
    have h4 : (2 * s + 1 + 1) * (2 * s + 1 + 1) ≤ 2 ^ ((b + 1) / 2) * 2 ^ ((b + 1) / 2) := Nat.mul_le_mul h h
    have e2 : (2 * s + 1 + 1) * (2 * s + 1 + 1) = 4 * ((s + 1) * (s + 1)) := by grind
    omega
def IsRt (o : xO) (q : Nat) : Prop := xk o q = (3, 5) ∧ xf o q 0 = .ref (q + 1) ∧ xf o q 1 = .ref (q + 3) ∧ xf o q 2 = .ref (q + 5) ∧ IsDv o (q + 5)
theorem IsRt.fr {S : List (Nat × Nat)} {o o' : xO} {q : Nat} (h : IsRt o q) (hf : Fr S o o') (h0 : Out S q) (h5 : Out S (q + 5)) : IsRt o' q :=
  ⟨by rw [hf.k]; exact h.1, by rw [hf.f h0]; exact h.2.1, by rw [hf.f h0]; exact h.2.2.1, by rw [hf.f h0]; exact h.2.2.2.1, h.2.2.2.2.fr hf h5⟩
def RtS (q : Nat) : List (Nat × Nat) := [(q + 1, 4), (q + 6, 6)]
theorem RtS.out {q b : Nat} (h : b ≤ q ∨ b = q + 5 ∨ q + 12 ≤ b) : Out (RtS q) b := ⟨by dsimp only; omega, by dsimp only; omega, trivial⟩
theorem RtS.r1 {q b r : Nat} (hr : q < r) (h : r + 2 ≤ q + 5 ∨ (q + 6 ≤ r ∧ r + 2 ≤ q + 12)) (k : Out (RtS q) b) : Out [(r, 2)] b := by
  have h1 := k.1; have h2 := k.2.1
  dsimp only at h1 h2
  exact ⟨by dsimp only; omega, trivial⟩
theorem RtS.d {q b : Nat} (k : Out (RtS q) b) : Out [(q + 5 + 1, 6)] b := by
  have h2 := k.2.1
  dsimp only at h2
  exact ⟨by dsimp only; omega, trivial⟩
def RtX (o : xO) (q : Nat) : Prop := Rx o (q + 3) ∧ Rx o (q + 6) ∧ Rx o (q + 8) ∧ Rx o (q + 10)
theorem big_sum : TOP + 2147483648 ^ 150 ≤ BIG := by
  have e4 : TOP ≤ 2147483648 ^ 300 := by unfold TOP; rw [b31]; exact Nat.pow_le_pow_right (by decide) (by decide)
  have e5 : (2147483648 : Nat) ^ 150 ≤ 2147483648 ^ 300 := Nat.pow_le_pow_right (by decide) (by decide)
  have e6 : 2147483648 ^ 300 * 2147483648 ≤ BIG := by unfold BIG; rw [← Nat.pow_succ]; exact Nat.pow_le_pow_right (by decide) (by decide)
  generalize (2147483648 : Nat) ^ 300 = t at e4 e5 e6
  generalize (2147483648 : Nat) ^ 150 = r at e5 ⊢
  omega
theorem c_root {o : xO} {q a x s v1 : Nat} (hq : IsRt o q) (h1 : Rn o (q + 1) v1) (hX : RtX o q) (ha : Rn o a x) (haq : a + 2 ≤ q ∨ q + 12 ≤ a) (hxT : x < TOP) (hs : s * s ≤ x) (hx : x < (s + 1) * (s + 1)) :
    Cv y_Roots_run [.ref q, .ref a] o (fun o' => Fr (RtS q) o o' ∧ Rn o' (q + 1) s ∧ RtX o' q) := by
  have oq := RtS.out (q := q) (b := q) (by omega)
  have oq5 := RtS.out (q := q) (b := q + 5) (by omega)
  have oa := RtS.out (q := q) (b := a) (by omega)
  have oa1 := RtS.out (q := q) (b := a + 1) (by omega)
  have oo : ∀ b, (b < q + 5 + 1 ∨ q + 5 + 1 + 6 ≤ b) → Out [(q + 5 + 1, 6)] b := fun b h => ⟨h, trivial⟩
  obtain ⟨f1, f2⟩ := root_first hs hx
  have hnx := top_nl hxT
  have hbx : nbit x ≤ 8192 := top_bits.mpr hxT
  have hsT : s < 2 ^ 8193 := by
    refine Nat.lt_of_le_of_lt f1 (Nat.pow_lt_pow_right (by decide) (by omega))
  have hcon := con_all hs hx hsT f1 f2
  have hgB : 2 ^ ((nbit x + 1) / 2) < 2147483648 ^ 150 := by rw [b31]; exact Nat.pow_lt_pow_right (by decide) (by omega)
  have hgn := nl_le.mpr hgB
  have loop : ∀ (N g : Nat) (iw : Int32), iw.toInt = 1000 - (N : Int) → N ≤ 1000 → Con x s N g → nl g ≤ 150 → ∀ w, Fr (RtS q) o w → Rn w (q + 1) g → RtX w q →
      RW (fun r o' => r = .inl none ∧ (Fr (RtS q) o o' ∧ Rn o' (q + 1) s ∧ RtX o' q)) y_Roots_run (xbk y_Roots_run 29) [.ref q, .ref a, .int iw] [] w := by
    intro N
    induction N with
    | zero =>
      intro g iw hi _ hc _ w hf g1 gX
      have hc : g = s := hc
      subst hc
      refine RW.ps 2 rfl ?_
      refine RW.icm (fun _ => ?_) (fun h => ?_)
      · exact RW.re rfl rfl ⟨rfl, hf, g1, gX⟩
      · rw [xi_ge, hi, show (1000 : Int32).toInt = 1000 from rfl] at h; omega
    | succ N ih =>
      intro g iw hi hN hc hgn w hf g1 gX
      have hq1 := hq.fr hf oq oq5
      have ha1 := ha.fr hf oa oa1
      refine RW.ps 2 rfl ?_
      refine RW.icm (fun h => ?_) (fun _ => ?_)
      · rw [xi_ge, hi, show (1000 : Int32).toInt = 1000 from rfl] at h; omega
      refine RW.ps 1 rfl ?_
      refine RW.gf hq1.1 hq1.2.1 ?_
      refine RW.cp rfl rfl (xrc_v rfl rfl g1.1.1) rfl rfl (c_isZero g1) ?_
      rcases hc with ⟨z1, z2⟩ | ⟨hg, hc⟩
      · subst z1; subst z2
        rw [if_pos rfl]
        refine RW.ifc (fun _ => ?_) (fun h2 => absurd (xi_ne.mpr (by decide)) h2)
        exact RW.re rfl rfl ⟨rfl, hf, g1, gX⟩
      rw [if_neg (by omega)]
      refine RW.ifc (fun h2 => absurd rfl (xi_ne.mp h2)) (fun _ => ?_)
      obtain ⟨⟨v3, x3⟩, ⟨v6, x6⟩, ⟨v8, x8⟩, ⟨v10, x10⟩⟩ := gX
      refine RW.weak (lv0 := [.ref q, .ref a, .int iw]) ⟨Or.inr rfl, Or.inr rfl, Or.inr rfl, trivial⟩ ?_
      refine RW.sk [] rfl ?_
      refine RW.ps 1 rfl ?_
      refine RW.gf hq1.1 hq1.2.2.2.1 ?_
      refine RW.ps 2 rfl ?_
      refine RW.gf hq1.1 hq1.2.1 ?_
      refine RW.cv rfl rfl (xrc_v rfl rfl hq1.2.2.2.2.1) rfl rfl (c_divide hq1.2.2.2.2 x6 x8 x10 ha1 g1 hg (by omega) (by omega) (by omega) (by omega)) ?_
      intro o2 ⟨k2, q2, r2, s2⟩
      have k2' : Fr (RtS q) o o2 := hf.trans (k2.up (fun b hb => RtS.d hb))
      have hq2 := hq.fr k2' oq oq5
      have g2 := g1.fr k2 (oo _ (by omega)) (oo _ (by omega))
      have n2 := x3.fr k2 (oo _ (by omega)) (oo _ (by omega))
      refine RW.weak (lv0 := [.ref q, .ref a, .int iw]) ⟨Or.inr rfl, Or.inr rfl, Or.inr rfl, trivial⟩ ?_
      refine RW.sk [] rfl ?_
      refine RW.ps 1 rfl ?_
      refine RW.gf hq2.1 hq2.2.2.1 ?_
      refine RW.ps 1 rfl ?_
      refine RW.gf hq2.1 hq2.2.2.2.1 ?_
      refine RW.gf hq2.2.2.2.2.1 hq2.2.2.2.2.2.1 ?_
      refine RW.cv rfl rfl (xrc_v rfl rfl n2.1.1) rfl rfl (c_become n2 q2) ?_
      intro o3 ho3
      have k3 : Fr (RtS q) o o3 := by subst ho3; exact k2'.trans (Fr.up Fr.num (fun b hb => RtS.r1 (by omega) (by omega) hb))
      have g3 : Rn o3 (q + 1) g := by subst ho3; exact g2.ne (by omega)
      have n3 : Rn o3 (q + 3) (x / g) := by subst ho3; exact Rn.num n2 q2.2.1
      have q3 : Rx o3 (q + 6) := by subst ho3; exact ⟨_, q2.ne (by omega)⟩
      have r3 : Rx o3 (q + 8) := by subst ho3; exact ⟨_, r2.ne (by omega)⟩
      have s3 : Rx o3 (q + 10) := by subst ho3; obtain ⟨v, s2⟩ := s2; exact ⟨_, s2.ne (by omega)⟩
      clear ho3
      have hq3 := hq.fr k3 oq oq5
      have hsum : x / g + g < BIG := by
        have e1 : x / g ≤ x := Nat.div_le_self _ _
        have e2 := nl_le.mp hgn
        have e3 := big_sum
        generalize (2147483648 : Nat) ^ 150 = t at e2 e3
        omega
      refine RW.weak (lv0 := [.ref q, .ref a, .int iw]) ⟨Or.inr rfl, Or.inr rfl, Or.inr rfl, trivial⟩ ?_
      refine RW.sk [] rfl ?_
      refine RW.ps 1 rfl ?_
      refine RW.gf hq3.1 hq3.2.2.1 ?_
      refine RW.ps 1 rfl ?_
      refine RW.gf hq3.1 hq3.2.1 ?_
      refine RW.cv rfl rfl (xrc_v rfl rfl n3.1.1) rfl rfl (c_add n3 g3 hsum) ?_
      intro o4 ho4
      have k4 : Fr (RtS q) o o4 := by subst ho4; exact k3.trans (Fr.up Fr.num (fun b hb => RtS.r1 (by omega) (by omega) hb))
      have g4 : Rn o4 (q + 1) g := by subst ho4; exact g3.ne (by omega)
      have n4 : Rn o4 (q + 3) (x / g + g) := by subst ho4; exact Rn.num n3 hsum
      have q4 : Rx o4 (q + 6) := by subst ho4; obtain ⟨v, h⟩ := q3; exact ⟨_, h.ne (by omega)⟩
      have r4 : Rx o4 (q + 8) := by subst ho4; obtain ⟨v, h⟩ := r3; exact ⟨_, h.ne (by omega)⟩
      have s4 : Rx o4 (q + 10) := by subst ho4; obtain ⟨v, h⟩ := s3; exact ⟨_, h.ne (by omega)⟩
      clear ho4
      have hq4 := hq.fr k4 oq oq5
      refine RW.weak (lv0 := [.ref q, .ref a, .int iw]) ⟨Or.inr rfl, Or.inr rfl, Or.inr rfl, trivial⟩ ?_
      refine RW.sk [] rfl ?_
      refine RW.ps 1 rfl ?_
      refine RW.gf hq4.1 hq4.2.2.1 ?_
      refine RW.ps 1 rfl ?_
      refine RW.cv rfl rfl (xrc_v rfl rfl n4.1.1) rfl rfl (c_lower (p := 1) n4 rfl (by decide)) ?_
      intro o5 ho5
      have hnB : nxt x g < BIG := Nat.lt_of_le_of_lt (Nat.div_le_self _ _) hsum
      have k5 : Fr (RtS q) o o5 := by subst ho5; exact k4.trans (Fr.up Fr.num (fun b hb => RtS.r1 (by omega) (by omega) hb))
      have g5 : Rn o5 (q + 1) g := by subst ho5; exact g4.ne (by omega)
      have n5 : Rn o5 (q + 3) (nxt x g) := by subst ho5; exact Rn.num n4 hnB
      have q5 : Rx o5 (q + 6) := by subst ho5; obtain ⟨v, h⟩ := q4; exact ⟨_, h.ne (by omega)⟩
      have r5 : Rx o5 (q + 8) := by subst ho5; obtain ⟨v, h⟩ := r4; exact ⟨_, h.ne (by omega)⟩
      have s5 : Rx o5 (q + 10) := by subst ho5; obtain ⟨v, h⟩ := s4; exact ⟨_, h.ne (by omega)⟩
      clear ho5
      have hq5 := hq.fr k5 oq oq5
      refine RW.weak (lv0 := [.ref q, .ref a, .int iw]) ⟨Or.inr rfl, Or.inr rfl, Or.inr rfl, trivial⟩ ?_
      refine RW.sk [] rfl ?_
      refine RW.ps 1 rfl ?_
      refine RW.gf hq5.1 hq5.2.2.1 ?_
      refine RW.ps 1 rfl ?_
      refine RW.gf hq5.1 hq5.2.1 ?_
      refine RW.cp rfl rfl (xrc_v rfl rfl n5.1.1) rfl rfl (c_against n5 g5) ?_
      rcases hc with ⟨hc1, hc2⟩ | ⟨hc1, hc2⟩
      · refine RW.ifc (fun _ => ?_) (fun h => absurd (xi_lt.mpr (cmpI_lt0.mpr hc1)) h)
        refine RW.weak (lv0 := [.ref q, .ref a, .int iw]) ⟨Or.inr rfl, Or.inr rfl, Or.inr rfl, trivial⟩ ?_
        refine RW.sk [] rfl ?_
        refine RW.ps 1 rfl ?_
        refine RW.gf hq5.1 hq5.2.1 ?_
        refine RW.ps 1 rfl ?_
        refine RW.gf hq5.1 hq5.2.2.1 ?_
        refine RW.cv rfl rfl (xrc_v rfl rfl g5.1.1) rfl rfl (c_become g5 n5) ?_
        intro o6 ho6
        refine RW.ps 1 rfl ?_
        refine RW.go ?_
        refine ih (nxt x g) (iw + 1) ?_ (by omega) hc2 (Nat.le_trans (nl_lt hc1) hgn) o6 ?_ ?_ ?_
        · have := i_succ (i := iw) (k := 1000 - (N + 1)) (by omega) (by omega)
          omega
        · subst ho6; exact k5.trans (Fr.up Fr.num (fun b hb => RtS.r1 (by omega) (by omega) hb))
        · subst ho6; exact Rn.num g5 hnB
        · subst ho6
          obtain ⟨v1, w1⟩ := q5
          obtain ⟨v2, w2⟩ := r5
          obtain ⟨v3, w3⟩ := s5
          exact ⟨⟨_, n5.ne (by omega)⟩, ⟨_, w1.ne (by omega)⟩, ⟨_, w2.ne (by omega)⟩, ⟨_, w3.ne (by omega)⟩⟩
      · refine RW.ifc (fun h => absurd (cmpI_lt0.mp (xi_lt.mp h)) hc1) (fun _ => ?_)
        subst hc2
        exact RW.re rfl rfl ⟨rfl, k5, g5, ⟨_, n5⟩, q5, r5, s5⟩
  obtain ⟨⟨v3, x3⟩, ⟨v6, x6⟩, ⟨v8, x8⟩, ⟨v10, x10⟩⟩ := hX
  refine RW.ps 1 rfl ?_
  refine RW.gf hq.1 hq.2.2.1 ?_
  refine RW.ps 1 rfl ?_
  refine RW.cv rfl rfl (xrc_v rfl rfl x3.1.1) rfl rfl (c_becomeLong (n := 1) x3 (by decide)) ?_
  intro o1 ho1
  have h1B : 1 < BIG := Nat.one_lt_pow (by decide) (by decide)
  have k1 : Fr (RtS q) o o1 := by subst ho1; exact Fr.up Fr.num (fun b hb => RtS.r1 (by omega) (by omega) hb)
  have g1 : Rn o1 (q + 1) v1 := by subst ho1; exact h1.ne (by omega)
  have n1 : Rn o1 (q + 3) 1 := by subst ho1; exact Rn.num x3 h1B
  have q1 : Rn o1 (q + 6) v6 := by subst ho1; exact x6.ne (by omega)
  have r1 : Rn o1 (q + 8) v8 := by subst ho1; exact x8.ne (by omega)
  have s1 : Rn o1 (q + 10) v10 := by subst ho1; exact x10.ne (by omega)
  clear ho1
  have hq1 := hq.fr k1 oq oq5
  have ha1 := ha.fr k1 oa oa1
  refine RW.weak (lv0 := [.ref q, .ref a, xj]) ⟨Or.inr rfl, Or.inr rfl, Or.inl rfl, trivial⟩ ?_
  refine RW.sk [] rfl ?_
  refine RW.ps 1 rfl ?_
  refine RW.gf hq1.1 hq1.2.1 ?_
  refine RW.ps 1 rfl ?_
  refine RW.gf hq1.1 hq1.2.2.1 ?_
  refine RW.ps 1 rfl ?_
  refine RW.cp rfl rfl (xrc_v rfl rfl ha1.1.1) rfl rfl (c_bits ha1) ?_
  refine RW.ps 3 rfl ?_
  refine RW.idv (by decide) ?_
  refine RW.top (congrArg Value.int ((show (Int32.ofInt (nbit x : Nat) + 1) / 2 = Int32.ofInt (((nbit x + 1) / 2 : Nat) : Int) by rw [show (1 : Int32) = Int32.ofInt 1 by decide, show (2 : Int32) = Int32.ofInt ((2 : Nat) : Int) by decide, ii_add, show (nbit x : Int) + 1 = ((nbit x + 1 : Nat) : Int) by omega, i_div (by omega) (by decide)]))) ?_
  have hgB2 : 1 * 2 ^ ((nbit x + 1) / 2) < BIG := by rw [Nat.one_mul]; exact Nat.lt_of_lt_of_le hgB (Nat.pow_le_pow_right (by decide) (by decide))
  refine RW.cv rfl rfl (xrc_v rfl rfl g1.1.1) rfl rfl (c_becomeRaised g1 n1 (by omega) (iu (by omega)) (by omega) hgB2 (by rw [show nl 1 = 1 by decide +kernel]; omega)) ?_
  intro o2 ho2
  rw [Nat.one_mul] at ho2 hgB2
  refine RW.ps 2 rfl ?_
  refine RW.weak (lv0 := [.ref q, .ref a, .int 0]) ⟨Or.inr rfl, Or.inr rfl, Or.inr rfl, trivial⟩ ?_
  refine RW.sk [] rfl ?_
  refine loop 1000 _ 0 rfl (Nat.le_refl _) hcon hgn o2 ?_ ?_ ?_
  · subst ho2; exact k1.trans (Fr.up Fr.num (fun b hb => RtS.r1 (by omega) (by omega) hb))
  · subst ho2; exact Rn.num g1 hgB2
  · subst ho2; exact ⟨⟨_, n1.ne (by omega)⟩, ⟨_, q1.ne (by omega)⟩, ⟨_, r1.ne (by omega)⟩, ⟨_, s1.ne (by omega)⟩⟩
