/-! DIVISORS: run. -/
def DsX (o : xO) (D : Nat) : Prop := Rx o (D + 3) ∧ Rx o (D + 6) ∧ Rx o (D + 8) ∧ Rx o (D + 10)
theorem Fr.in12 {D a n : Nat} {o o' : xO} (h : Fr [(a, n)] o o') (h1 : D ≤ a) (h2 : a + n ≤ D + 12) : Fr [(D, 12)] o o' := h.up (fun b hb => by simp only [Out, and_true] at hb ⊢; omega)
theorem gcd_of {A x y : Nat} (h : ∀ t : Int, (t ∣ (A : Int) ∧ t ∣ 0) ↔ (t ∣ (x : Int) ∧ t ∣ (y : Int))) : A = Nat.gcd x y := by
  apply Nat.dvd_antisymm
  · have h1 := (h (A : Int)).mp ⟨Int.dvd_refl _, Int.dvd_zero _⟩
    exact Nat.dvd_gcd (Int.natCast_dvd_natCast.mp h1.1) (Int.natCast_dvd_natCast.mp h1.2)
  · have h1 := (h (Nat.gcd x y : Int)).mpr ⟨Int.natCast_dvd_natCast.mpr (Nat.gcd_dvd_left _ _), Int.natCast_dvd_natCast.mpr (Nat.gcd_dvd_right _ _)⟩
    exact Int.natCast_dvd_natCast.mp h1.1
theorem c_takeOneStep {o : xO} {D A B : Nat} (hD : IsDs o D) (hA : Rn o (D + 1) A) (hB : Rn o (D + 3) B) (h6 : Rx o (D + 6)) (h8 : Rx o (D + 8)) (h10 : Rx o (D + 10)) (hB0 : 0 < B) (hnA : nl A ≤ 538) (hnB : nl B ≤ 538) :
    Cv y_Divisors_takeOneStep [.ref D] o (fun o' => Fr [(D, 12)] o o' ∧ IsDs o' D ∧ Rn o' (D + 1) B ∧ Rn o' (D + 3) (A % B) ∧ Rx o' (D + 6) ∧ Rx o' (D + 8) ∧ Rx o' (D + 10)) := by
  obtain ⟨v6, h6⟩ := h6
  obtain ⟨v8, h8⟩ := h8
  obtain ⟨v10, h10⟩ := h10
  refine RW.ps 1 rfl ?_
  refine RW.gf hD.1 hD.2.2.2.1 ?_
  refine RW.ps 1 rfl ?_
  refine RW.gf hD.1 hD.2.1 ?_
  refine RW.ps 1 rfl ?_
  refine RW.gf hD.1 hD.2.2.1 ?_
  refine RW.cv rfl rfl (xrc_v rfl rfl hD.2.2.2.2.1) rfl rfl (c_divide (d := D + 5) hD.2.2.2.2 h6 h8 h10 hA hB hB0 (by omega) (by omega) hnA hnB) ?_
  intro o1 ⟨f1, q1, r1, s1⟩
  have hD1 := hD.fr f1 (by simp only [Out, and_true]; omega) (by simp only [Out, and_true]; omega)
  have hA1 := hA.fr f1 (by simp only [Out, and_true]; omega) (by simp only [Out, and_true]; omega)
  have hB1 := hB.fr f1 (by simp only [Out, and_true]; omega) (by simp only [Out, and_true]; omega)
  have f1 := f1.in12 (D := D) (by omega) (by omega)
  refine RW.weak (lv0 := [.ref D]) ⟨Or.inr rfl, trivial⟩ ?_
  refine RW.sk [] rfl ?_
  refine RW.ps 1 rfl ?_
  refine RW.gf hD1.1 hD1.2.1 ?_
  refine RW.ps 1 rfl ?_
  refine RW.gf hD1.1 hD1.2.2.1 ?_
  refine RW.cv rfl rfl (xrc_v rfl rfl hA1.1.1) rfl rfl (c_become hA1 hB1) ?_
  intro o2 ho2
  have f2 : Fr [(D + 1, 2)] o1 o2 := by subst ho2; exact Fr.num
  have hA2 : Rn o2 (D + 1) B := by subst ho2; exact Rn.num hA1 hB1.2.1
  clear ho2
  have hD2 := hD1.fr f2 (by simp only [Out, and_true]; omega) (by simp only [Out, and_true]; omega)
  have hB2 := hB1.fr f2 (by simp only [Out, and_true]; omega) (by simp only [Out, and_true]; omega)
  have q2 := q1.fr f2 (by simp only [Out, and_true]; omega) (by simp only [Out, and_true]; omega)
  have r2 := r1.fr f2 (by simp only [Out, and_true]; omega) (by simp only [Out, and_true]; omega)
  have s2 := s1.fr f2 (by simp only [Out, and_true]; omega) (by simp only [Out, and_true]; omega)
  have f2 := f1.trans (f2.in12 (D := D) (by omega) (by omega))
  refine RW.weak (lv0 := [.ref D]) ⟨Or.inr rfl, trivial⟩ ?_
  refine RW.sk [] rfl ?_
  refine RW.ps 1 rfl ?_
  refine RW.gf hD2.1 hD2.2.2.1 ?_
  refine RW.ps 1 rfl ?_
  refine RW.gf hD2.1 hD2.2.2.2.1 ?_
  refine RW.gf hD2.2.2.2.2.1 hD2.2.2.2.2.2.2.1 ?_
  refine RW.cv rfl rfl (xrc_v rfl rfl hB2.1.1) rfl rfl (c_become hB2 r2) ?_
  intro o3 ho3
  have f3 : Fr [(D + 3, 2)] o2 o3 := by subst ho3; exact Fr.num
  have hB3 : Rn o3 (D + 3) (A % B) := by subst ho3; exact Rn.num hB2 r2.2.1
  clear ho3
  exact RW.re rfl rfl ⟨rfl, f2.trans (f3.in12 (D := D) (by omega) (by omega)), hD2.fr f3 (by simp only [Out, and_true]; omega) (by simp only [Out, and_true]; omega), hA2.fr f3 (by simp only [Out, and_true]; omega) (by simp only [Out, and_true]; omega), hB3, ⟨_, q2.fr f3 (by simp only [Out, and_true]; omega) (by simp only [Out, and_true]; omega)⟩, ⟨_, r2.fr f3 (by simp only [Out, and_true]; omega) (by simp only [Out, and_true]; omega)⟩, s2.fr f3 (by simp only [Out, and_true]; omega) (by simp only [Out, and_true]; omega)⟩
theorem l_ne_iff {x : Int} (hx : -9223372036854775808 ≤ x) (hx2 : x < 9223372036854775808) : xcd .ne (lg_cmp (Int64.ofInt x) 0) 0 ↔ x ≠ 0 := lcmp_neZ (b := 0) hx hx2 (by decide) (by decide)
theorem prod_half {A B m : Nat} (h1 : A * B < 2 ^ (m + 1)) {X Y : Nat} (h2 : 2 * (X * Y) ≤ A * B) : X * Y < 2 ^ m := by
  rw [Nat.pow_succ] at h1; omega
theorem c_gcd {o : xO} {D a b x y v1 : Nat} (hD : IsDs o D) (h1 : Rn o (D + 1) v1) (hX : DsX o D) (ha : Rn o a x) (hb : Rn o b y) (haD : a + 2 ≤ D ∨ D + 12 ≤ a) (hbD : b + 2 ≤ D ∨ D + 12 ≤ b) (hx : x < TOP) (hy : y < TOP) :
    Cv y_Divisors_run [.ref D, .ref a, .ref b] o (fun o' => Fr [(D, 12)] o o' ∧ IsDs o' D ∧ Rn o' (D + 1) (Nat.gcd x y) ∧ DsX o' D) := by
  obtain ⟨⟨v3, h3⟩, h6, h8, h10⟩ := hX
  have loop : ∀ (m : Nat) (iw : Int32) (A B : Nat), 0 ≤ iw.toInt → iw.toInt + (m : Int) ≤ 99999 → B ≤ A → A < TOP → A * B < 2 ^ m → (∀ t : Int, (t ∣ (A : Int) ∧ t ∣ (B : Int)) ↔ (t ∣ (x : Int) ∧ t ∣ (y : Int))) → ∀ w, Fr [(D, 12)] o w → IsDs w D → Rn w (D + 1) A → Rn w (D + 3) B → Rx w (D + 6) → Rx w (D + 8) → Rx w (D + 10) →
      RW (fun r o' => r = .inl none ∧ (Fr [(D, 12)] o o' ∧ IsDs o' D ∧ Rn o' (D + 1) (Nat.gcd x y) ∧ DsX o' D)) y_Divisors_run (xbk y_Divisors_run 49) [.ref D, .ref a, .ref b, xj, .int iw] [] w := by
    intro m
    induction m with
    | zero =>
      intro iw A B hi0 hi hBA hAT hAB hg w hf hd hA hB h6 h8 h10
      have hB0 : B = 0 := by
        rw [Nat.pow_zero] at hAB
        rcases Nat.mul_eq_zero.mp (show A * B = 0 by omega) with h | h <;> omega
      subst hB0
      rw [gcd_of (fun t => (hg t))] at hA
      refine RW.ps 2 rfl ?_
      refine RW.icm (fun k => ?_) (fun _ => ?_)
      · rw [xi_ge, show (100000 : Int32).toInt = 100000 from rfl] at k; omega
      refine RW.ps 1 rfl ?_
      refine RW.gf hd.1 hd.2.2.1 ?_
      refine RW.cp rfl rfl (xrc_v rfl rfl hB.1.1) rfl rfl (c_isZero hB) ?_
      rw [if_pos rfl]
      refine RW.ifc (fun _ => ?_) (fun h2 => absurd (xi_ne.mpr (by decide)) h2)
      exact RW.re rfl rfl ⟨rfl, hf, hd, hA, ⟨_, hB⟩, h6, h8, h10⟩
    | succ m ih =>
      intro iw A B hi0 hi hBA hAT hAB hg w hf hd hA hB h6 h8 h10
      refine RW.ps 2 rfl ?_
      refine RW.icm (fun k => ?_) (fun _ => ?_)
      · rw [xi_ge, show (100000 : Int32).toInt = 100000 from rfl] at k; omega
      refine RW.ps 1 rfl ?_
      refine RW.gf hd.1 hd.2.2.1 ?_
      refine RW.cp rfl rfl (xrc_v rfl rfl hB.1.1) rfl rfl (c_isZero hB) ?_
      by_cases hB0 : B = 0
      · subst hB0
        rw [gcd_of (fun t => (hg t))] at hA
        rw [if_pos rfl]
        refine RW.ifc (fun _ => ?_) (fun h2 => absurd (xi_ne.mpr (by decide)) h2)
        exact RW.re rfl rfl ⟨rfl, hf, hd, hA, ⟨_, hB⟩, h6, h8, h10⟩
      rw [if_neg hB0]
      refine RW.ifc (fun h2 => absurd rfl (xi_ne.mp h2)) (fun _ => ?_)
      have hi2 : (iw + 1).toInt = iw.toInt + 1 := by have := i_succ (i := iw) (k := iw.toInt.toNat) (by omega) (by omega); omega
      have hnA := top_nl hAT
      have hnB := nl_mono hBA
      refine RW.ps 1 rfl ?_
      refine RW.cv rfl rfl (xrc_v rfl rfl hd.1) rfl rfl (c_decideSteps hd hA hB hBA) ?_
      intro w1 ⟨f1, d1, P, fa, fb, fc, fd, hh, ss, X, Y, hP, hL, hF⟩
      obtain ⟨-, -, hall, -, ⟨eX, eY⟩, ⟨j1, j2, j3⟩, ⟨-, hp⟩, hgg⟩ := hL
      have hall' := hall
      unfold M31 at hall'
      have A1 := hA.fr f1 (by simp only [Out, and_true]; omega) (by simp only [Out, and_true]; omega)
      have B1 := hB.fr f1 (by simp only [Out, and_true]; omega) (by simp only [Out, and_true]; omega)
      have x6 := h6.fr f1 (by simp only [Out, and_true]; omega) (by simp only [Out, and_true]; omega)
      have x8 := h8.fr f1 (by simp only [Out, and_true]; omega) (by simp only [Out, and_true]; omega)
      have x10 := h10.fr f1 (by simp only [Out, and_true]; omega) (by simp only [Out, and_true]; omega)
      have f1 := hf.trans (f1.in12 (D := D) (by omega) (by omega))
      refine RW.weak (lv0 := [.ref D, .ref a, .ref b, xj, .int iw]) ⟨Or.inr rfl, Or.inr rfl, Or.inr rfl, Or.inl rfl, Or.inr rfl, trivial⟩ ?_
      refine RW.sk [] rfl ?_
      refine RW.ps 1 rfl ?_
      refine RW.gf d1.1 hF.2.1 ?_
      refine RW.ps 2 rfl ?_
      refine RW.ifc (fun k => ?_) (fun k => ?_)
      · have k := (l_ne_iff (x := fb) (by omega) (by omega)).mp k
        have hp : 2 * (X * Y) ≤ (A : Int) * (B : Int) := by rcases hp with h | h; exact absurd h k; exact h
        obtain ⟨Xn, rfl⟩ := Int.eq_ofNat_of_zero_le (show 0 ≤ X by omega)
        obtain ⟨Yn, rfl⟩ := Int.eq_ofNat_of_zero_le j1
        refine RW.ps 1 rfl ?_
        refine RW.cv rfl rfl (xrc_v rfl rfl d1.1) rfl rfl (c_takeDecidedSteps (X := Xn) (Y := Yn) d1 A1 B1 hF hall eX eY hBA (by omega) (by omega)) ?_
        intro w2 ⟨f2, a2, b2⟩
        refine RW.ps 1 rfl ?_
        refine RW.go ?_
        refine ih (iw + 1) Xn Yn (by omega) (by omega) (by omega) (by omega) (prod_half hAB ?_) (fun t => (hgg t).trans (hg t)) w2 (f1.trans (f2.in12 (D := D) (by omega) (by omega))) ?_ a2 b2 ?_ ?_ ?_
        · rw [← Int.natCast_mul, ← Int.natCast_mul] at hp; omega
        · exact d1.fr f2 (by simp only [Out, and_true]; omega) (by simp only [Out, and_true]; omega)
        · exact x6.fr f2 (by simp only [Out, and_true]; omega) (by simp only [Out, and_true]; omega)
        · exact x8.fr f2 (by simp only [Out, and_true]; omega) (by simp only [Out, and_true]; omega)
        · exact x10.fr f2 (by simp only [Out, and_true]; omega) (by simp only [Out, and_true]; omega)
      · refine RW.ps 1 rfl ?_
        refine RW.cv rfl rfl (xrc_v rfl rfl d1.1) rfl rfl (c_takeOneStep d1 A1 B1 x6 x8 x10 (by omega) (by omega) (by omega)) ?_
        intro w2 ⟨f2, d2, a2, b2, y6, y8, y10⟩
        refine RW.go ?_
        refine RW.ps 1 rfl ?_
        refine RW.go ?_
        have hlt := Nat.mod_lt A (show 0 < B by omega)
        have hdm := Nat.div_add_mod A B
        refine ih (iw + 1) B (A % B) (by omega) (by omega) (by omega) (by omega) (prod_half hAB ?_) (fun t => ?_) w2 (f1.trans f2) d2 a2 b2 y6 y8 y10
        · have h1 : 1 ≤ A / B := Nat.div_pos hBA (by omega)
          have h2 : B * 1 ≤ B * (A / B) := Nat.mul_le_mul_left B h1
          have h3 : 2 * (A % B) ≤ A := by omega
          have h4 := Nat.mul_le_mul_left B h3
          rw [Nat.mul_comm A B, show 2 * (B * (A % B)) = B * (2 * (A % B)) by ac_rfl]; exact h4
        · rw [← hg t]
          have e : ((A % B : Nat) : Int) = (A : Int) - ((A / B : Nat) : Int) * (B : Int) := by
            rw [← Int.natCast_mul, Nat.mul_comm]; omega
          rw [e]
          exact lstep_dvd t
  have hfin : ∀ A B, B ≤ A → A < TOP → (∀ t : Int, (t ∣ (A : Int) ∧ t ∣ (B : Int)) ↔ (t ∣ (x : Int) ∧ t ∣ (y : Int))) → ∀ w, Fr [(D, 12)] o w → IsDs w D → Rn w (D + 1) A → Rn w (D + 3) B → Rx w (D + 6) → Rx w (D + 8) → Rx w (D + 10) →
      RW (fun r o' => r = .inl none ∧ (Fr [(D, 12)] o o' ∧ IsDs o' D ∧ Rn o' (D + 1) (Nat.gcd x y) ∧ DsX o' D)) y_Divisors_run (xbk y_Divisors_run 49) [.ref D, .ref a, .ref b, xj, .int 0] [] w := by
    intro A B hBA hAT hg w hf hd hA hB h6 h8 h10
    refine loop 16384 0 A B (by decide) (by decide) hBA hAT ?_ hg w hf hd hA hB h6 h8 h10
    have h1 : A * B < TOP * TOP := Nat.mul_lt_mul'' hAT (by omega)
    unfold TOP at h1
    rw [← Nat.pow_add] at h1
    exact h1
  have h43 : ∀ A B q, B ≤ A → A < TOP → (∀ t : Int, (t ∣ (A : Int) ∧ t ∣ (B : Int)) ↔ (t ∣ (x : Int) ∧ t ∣ (y : Int))) → Rn o q B → (q + 2 ≤ D ∨ D + 12 ≤ q) → ∀ w, Fr [(D + 1, 2)] o w → Rn w (D + 1) A →
      RW (fun r o' => r = .inl none ∧ (Fr [(D, 12)] o o' ∧ IsDs o' D ∧ Rn o' (D + 1) (Nat.gcd x y) ∧ DsX o' D)) y_Divisors_run (xbk y_Divisors_run 43) [.ref D, .ref a, .ref b, xj, xj] [.ref q, .ref (D + 3)] w := by
    intro A B q hBA hAT hg hq hqD w hf hA
    have hd := hD.fr hf (by simp only [Out, and_true]; omega) (by simp only [Out, and_true]; omega)
    have hq := hq.fr hf (by simp only [Out, and_true]; omega) (by simp only [Out, and_true]; omega)
    have h3 := h3.fr hf (by simp only [Out, and_true]; omega) (by simp only [Out, and_true]; omega)
    have h6 := h6.fr hf (by simp only [Out, and_true]; omega) (by simp only [Out, and_true]; omega)
    have h8 := h8.fr hf (by simp only [Out, and_true]; omega) (by simp only [Out, and_true]; omega)
    have h10 := h10.fr hf (by simp only [Out, and_true]; omega) (by simp only [Out, and_true]; omega)
    refine RW.cv rfl rfl (xrc_v rfl rfl h3.1.1) rfl rfl (c_become h3 hq) ?_
    intro w2 ho2
    have f2 : Fr [(D + 3, 2)] w w2 := by subst ho2; exact Fr.num
    have hB2 : Rn w2 (D + 3) B := by subst ho2; exact Rn.num h3 hq.2.1
    clear ho2
    refine RW.ps 2 rfl ?_
    refine RW.weak (lv0 := [.ref D, .ref a, .ref b, xj, .int 0]) ⟨Or.inr rfl, Or.inr rfl, Or.inr rfl, Or.inl rfl, Or.inr rfl, trivial⟩ ?_
    refine RW.sk [] rfl ?_
    exact hfin A B hBA hAT hg w2 ((hf.in12 (D := D) (by omega) (by omega)).trans (f2.in12 (D := D) (by omega) (by omega))) (hd.fr f2 (by simp only [Out, and_true]; omega) (by simp only [Out, and_true]; omega)) (hA.fr f2 (by simp only [Out, and_true]; omega) (by simp only [Out, and_true]; omega)) hB2 (h6.fr f2 (by simp only [Out, and_true]; omega) (by simp only [Out, and_true]; omega)) (h8.fr f2 (by simp only [Out, and_true]; omega) (by simp only [Out, and_true]; omega)) (h10.fr f2 (by simp only [Out, and_true]; omega) (by simp only [Out, and_true]; omega))
  refine RW.ps 2 rfl ?_
  refine RW.cp rfl rfl (xrc_v rfl rfl ha.1.1) rfl rfl (c_against ha hb) ?_
  by_cases hlt : x < y
  · rw [cmpI_lt hlt]
    refine RW.ifc (fun k => absurd (xi_ge.mp k) (by decide)) (fun _ => ?_)
    refine RW.ps 1 rfl ?_
    refine RW.go ?_
    refine RW.ps 2 rfl ?_
    refine RW.gf hD.1 hD.2.1 ?_
    refine RW.ps 1 rfl ?_
    refine RW.ifc (fun k => absurd (xi_eq.mp k) (by decide)) (fun _ => ?_)
    refine RW.ps 1 rfl ?_
    refine RW.go ?_
    refine RW.cv rfl rfl (xrc_v rfl rfl h1.1.1) rfl rfl (c_become h1 hb) ?_
    intro w ho
    have f1 : Fr [(D + 1, 2)] o w := by subst ho; exact Fr.num
    have hA1 : Rn w (D + 1) y := by subst ho; exact Rn.num h1 hb.2.1
    clear ho
    have hD1 := hD.fr f1 (by simp only [Out, and_true]; omega) (by simp only [Out, and_true]; omega)
    refine RW.ps 1 rfl ?_
    refine RW.gf hD1.1 hD1.2.2.1 ?_
    refine RW.ps 1 rfl ?_
    refine RW.ifc (fun k => absurd (xi_eq.mp k) (by decide)) (fun _ => ?_)
    refine RW.ps 1 rfl ?_
    refine RW.go ?_
    refine RW.weak (lv0 := [.ref D, .ref a, .ref b, xj, xj]) ⟨Or.inr rfl, Or.inr rfl, Or.inr rfl, Or.inl rfl, Or.inl rfl, trivial⟩ ?_
    refine RW.sk [.ref a, .ref (D + 3)] rfl ?_
    exact h43 y x a (Nat.le_of_lt hlt) hy (fun t => And.comm) ha haD w f1 hA1
  · have hge : xcd .ge (cmpI x y) 0 := by rw [xi_ge, i0]; have := cmpI_lt0 (x := x) (y := y); rw [i0] at this; omega
    refine RW.ifc (fun _ => ?_) (fun k => absurd hge k)
    refine RW.ps 3 rfl ?_
    refine RW.gf hD.1 hD.2.1 ?_
    refine RW.ps 1 rfl ?_
    refine RW.ifc (fun _ => ?_) (fun k => absurd (xi_eq.mpr rfl) k)
    refine RW.ps 1 rfl ?_
    refine RW.cv rfl rfl (xrc_v rfl rfl h1.1.1) rfl rfl (c_become h1 ha) ?_
    intro w ho
    have f1 : Fr [(D + 1, 2)] o w := by subst ho; exact Fr.num
    have hA1 : Rn w (D + 1) x := by subst ho; exact Rn.num h1 ha.2.1
    clear ho
    have hD1 := hD.fr f1 (by simp only [Out, and_true]; omega) (by simp only [Out, and_true]; omega)
    refine RW.ps 1 rfl ?_
    refine RW.gf hD1.1 hD1.2.2.1 ?_
    refine RW.ps 1 rfl ?_
    refine RW.ifc (fun _ => ?_) (fun k => absurd (xi_eq.mpr rfl) k)
    refine RW.ps 1 rfl ?_
    refine RW.weak (lv0 := [.ref D, .ref a, .ref b, xj, xj]) ⟨Or.inr rfl, Or.inr rfl, Or.inr rfl, Or.inl rfl, Or.inl rfl, trivial⟩ ?_
    refine RW.sk [.ref b, .ref (D + 3)] rfl ?_
    exact h43 x y b (by omega) hx (fun t => Iff.rfl) hb hbD w f1 hA1
