/-! LOWEST TERMS -/
def GC (a b : Int) : Int := ((Nat.gcd a.natAbs b.natAbs : Nat) : Int)
def fr (a b : Int) (w : Int32) : Int := if w = 0 then a.tdiv (GC a b) else b.tdiv (GC a b)
theorem GC_pos {a b : Int} (hb : 0 < b) : 0 < GC a b := by
  have := Nat.gcd_pos_of_pos_right a.natAbs (n := b.natAbs) (by omega)
  unfold GC; omega
theorem GC_a (a b : Int) : ∃ u, a = GC a b * u := by
  have h : (GC a b) ∣ a := by
    unfold GC
    exact Int.ofNat_dvd_left.mpr (Nat.gcd_dvd_left _ _)
  exact h
theorem GC_b (a b : Int) : ∃ u, b = GC a b * u := by
  have h : (GC a b) ∣ b := by
    unfold GC
    exact Int.ofNat_dvd_left.mpr (Nat.gcd_dvd_right _ _)
  exact h
theorem fr_of {a b : Int} (hb : 0 < b) {u x : Int} (hu : a = GC a b * u) (hx : b = GC a b * x) (w : Int32) : fr a b w = if w = 0 then u else x := by
  have g := GC_pos (a := a) hb
  have e1 : a.tdiv (GC a b) = u := (congrArg (fun z => Int.tdiv z (GC a b)) hu).trans (Int.mul_tdiv_cancel_left u (by omega))
  have e2 : b.tdiv (GC a b) = x := (congrArg (fun z => Int.tdiv z (GC a b)) hx).trans (Int.mul_tdiv_cancel_left x (by omega))
  unfold fr
  rw [e1, e2]
theorem fr_eq {a b c d : Int} (hb : 0 < b) (hd : 0 < d) (h : a * d = c * b) (w : Int32) : fr a b w = fr c d w := by
  have e : GC a b * d = GC c d * b := by
    have h1 : Nat.gcd (a.natAbs * d.natAbs) (b.natAbs * d.natAbs) = Nat.gcd a.natAbs b.natAbs * d.natAbs := Nat.gcd_mul_right _ _ _
    have h2 : Nat.gcd (c.natAbs * b.natAbs) (d.natAbs * b.natAbs) = Nat.gcd c.natAbs d.natAbs * b.natAbs := Nat.gcd_mul_right _ _ _
    have h3 : a.natAbs * d.natAbs = c.natAbs * b.natAbs := by rw [← Int.natAbs_mul, ← Int.natAbs_mul, h]
    rw [h3, Nat.mul_comm b.natAbs, h2] at h1
    have h4 : ((Nat.gcd c.natAbs d.natAbs * b.natAbs : Nat) : Int) = ((Nat.gcd a.natAbs b.natAbs * d.natAbs : Nat) : Int) := by rw [h1]
    rw [Int.natCast_mul, Int.natCast_mul, Int.natAbs_of_nonneg (by omega), Int.natAbs_of_nonneg (by omega)] at h4
    exact h4.symm
  have g1 := GC_pos (a := a) hb
  have g2 := GC_pos (a := c) hd
  obtain ⟨u, hu⟩ := GC_a a b
  obtain ⟨x, hx⟩ := GC_b a b
  obtain ⟨v, hv⟩ := GC_a c d
  obtain ⟨y, hy⟩ := GC_b c d
  rw [fr_of hb hu hx, fr_of hd hv hy]
  generalize GC a b = g at *
  generalize GC c d = k at *
  have hxy : x = y := by
    have : g * k * y = g * k * x := by grind
    exact (Int.eq_of_mul_eq_mul_left (by have := Int.mul_pos g1 g2; omega) this).symm
  subst hxy
  have hx0 : x ≠ 0 := fun q => by rw [q, Int.mul_zero] at hx; omega
  have huv : u = v := by
    have e1 : g * k * x * u = g * k * x * v := by grind
    have nz : g * k * x ≠ 0 := fun q => by
      rcases Int.mul_eq_zero.mp q with q | q
      · rcases Int.mul_eq_zero.mp q with q | q <;> omega
      · exact hx0 q
    exact Int.eq_of_mul_eq_mul_left nz e1
  rw [huv]
theorem gcd_st (p q : Nat) : Nat.gcd q (p % q) = Nat.gcd p q := by
  rw [Nat.gcd_comm p q, Nat.gcd_rec q p, Nat.gcd_comm]
theorem half_lt {q r j : Nat} (h0 : 0 < r) (h : r < q) (hq : q < 2 ^ (j + 1)) : q % r < 2 ^ j := by
  have e : 2 ^ (j + 1) = 2 ^ j * 2 := Nat.pow_succ 2 j
  have h1 := Nat.mod_lt q h0
  have h2 := Nat.div_add_mod q r
  have h3 : 1 ≤ q / r := Nat.div_pos (Nat.le_of_lt h) h0
  have h4 : r * 1 ≤ r * (q / r) := Nat.mul_le_mul_left r h3
  omega
theorem cd_loop {N : Nat} {M : Mm} : ∀ (j st fuel : Nat) (x y : Int64) (p q : Nat), x.toInt = p → y.toInt = q → q < 2 ^ j → 0 < Nat.gcd p q → st + 2 * j ≤ 99 → 2 * j < fuel →
    ∃ r : Int64, lpT (fun _ _ _ _ => none) (F_X2_commonDivisor_9 N) fuel x y (nI st) M = some (r, M) ∧ r.toInt = Nat.gcd p q := by
  have fin : ∀ (st fuel : Nat) (x y : Int64) (p : Nat), x.toInt = p → y.toInt = 0 → 0 < p → st ≤ 99 → 0 < fuel → ∃ r : Int64, lpT (fun _ _ _ _ => none) (F_X2_commonDivisor_9 N) fuel x y (nI st) M = some (r, M) ∧ r.toInt = p := by
    intro st fuel x y p hx hy hp hst hf
    obtain ⟨z, rfl, -⟩ := fuel_s hf
    refine ⟨if 1 < x then x else 1, ?_, ?_⟩
    · rw [lp_s]
      generalize lpT (fun _ _ _ _ => none) (F_X2_commonDivisor_9 N) z = k
      unfold F_X2_commonDivisor_9
      rw [if_neg (fun q => by have := (nI_leI (a := 100) (b := st) (by decide) (by omega)).mp q; omega), if_pos (cmp_eq.mpr (by rw [hy, l0]))]
    · by_cases h1 : 1 < x
      · rw [if_pos h1]; exact hx
      · rw [if_neg h1, l1]
        have : ¬ 1 < x.toInt := fun q => h1 (Int64.lt_iff_toInt_lt.mpr (by rw [l1]; exact q))
        omega
  have one : ∀ (st fuel : Nat) (x y : Int64) (p q : Nat), x.toInt = p → y.toInt = q → 0 < q → st ≤ 98 → lpT (fun _ _ _ _ => none) (F_X2_commonDivisor_9 N) (fuel + 1) x y (nI st) M = lpT (fun _ _ _ _ => none) (F_X2_commonDivisor_9 N) fuel y (x - x / y * y) (nI (st + 1)) M := by
    intro st fuel x y p q hx hy hq hst
    rw [lp_s]
    generalize lpT (fun _ _ _ _ => none) (F_X2_commonDivisor_9 N) fuel = k
    unfold F_X2_commonDivisor_9
    rw [if_neg (fun q => by have := (nI_leI (a := 100) (b := st) (by decide) (by omega)).mp q; omega), if_neg (fun e => by have := cmp_eq.mp e; rw [hy, l0] at this; omega), if_neg (fun e => by rw [e, l0] at hy; omega), nI_1]
  intro j
  induction j with
  | zero =>
    intro st fuel x y p q hx hy hq hg hst hf
    have hq0 : q = 0 := by omega
    subst hq0
    rw [Nat.gcd_zero_right] at hg ⊢
    exact fin st fuel x y p hx hy hg (by omega) (by omega)
  | succ j ih =>
    intro st fuel x y p q hx hy hq hg hst hf
    by_cases q0 : q = 0
    · subst q0
      rw [Nat.gcd_zero_right] at hg ⊢
      exact fin st fuel x y p hx hy hg (by omega) (by omega)
    · have e1 : (x - x / y * y).toInt = ((p % q : Nat) : Int) := by rw [Kit.i64_rem_nonneg (by omega), hx, hy]; rfl
      have hr := Nat.mod_lt p (show 0 < q by omega)
      obtain ⟨fu, rfl, -⟩ := fuel_s (show 0 < fuel by omega)
      rw [one st fu x y p q hx hy (by omega) (by omega), ← gcd_st p q]
      by_cases r0 : p % q = 0
      · rw [r0, Nat.gcd_zero_right]
        exact fin (st + 1) fu y _ q hy (by rw [e1, r0]; rfl) (by omega) (by omega) (by omega)
      · have e2 : (y - y / (x - x / y * y) * (x - x / y * y)).toInt = ((q % (p % q) : Nat) : Int) := by rw [Kit.i64_rem_nonneg (by omega), hy, e1]; rfl
        obtain ⟨fu2, rfl, -⟩ := fuel_s (show 0 < fu by omega)
        rw [one (st + 1) fu2 y _ q (p % q) hy e1 (by omega) (by omega), ← gcd_st q (p % q)]
        refine ih (st + 2) fu2 _ _ (p % q) (q % (p % q)) e1 e2 (half_lt (by omega) hr hq) ?_ (by omega) (by omega)
        rw [gcd_st, gcd_st]; exact hg
theorem dv_loop {N : Nat} {M : Mm} : ∀ (j fuel : Nat) (x y : Int64) (p q : Nat), x.toInt = p → y.toInt = q → q < 2 ^ j → 2 * j < fuel →
    ∃ r : Int64, lpT (fun _ _ _ => none) (F_X3_divisor_17 N) fuel x y M = some (r, M) ∧ r.toInt = Nat.gcd p q := by
  have fin : ∀ (fuel : Nat) (x y : Int64) (p : Nat), x.toInt = p → y.toInt = 0 → 0 < fuel → ∃ r : Int64, lpT (fun _ _ _ => none) (F_X3_divisor_17 N) fuel x y M = some (r, M) ∧ r.toInt = p := by
    intro fuel x y p hx hy hf
    obtain ⟨z, rfl, -⟩ := fuel_s hf
    refine ⟨x, ?_, hx⟩
    rw [lp_s]
    generalize lpT (fun _ _ _ => none) (F_X3_divisor_17 N) z = k
    unfold F_X3_divisor_17
    rw [if_pos (cmp_eq.mpr (by rw [hy, l0]))]
  have one : ∀ (fuel : Nat) (x y : Int64) (q : Nat), y.toInt = q → 0 < q → lpT (fun _ _ _ => none) (F_X3_divisor_17 N) (fuel + 1) x y M = lpT (fun _ _ _ => none) (F_X3_divisor_17 N) fuel y (x - x / y * y) M := by
    intro fuel x y q hy hq
    rw [lp_s]
    generalize lpT (fun _ _ _ => none) (F_X3_divisor_17 N) fuel = k
    unfold F_X3_divisor_17
    rw [if_neg (fun e => by have := cmp_eq.mp e; rw [hy, l0] at this; omega), if_neg (fun e => by rw [e, l0] at hy; omega)]
  intro j
  induction j with
  | zero =>
    intro fuel x y p q hx hy hq hf
    have hq0 : q = 0 := by omega
    subst hq0
    rw [Nat.gcd_zero_right]
    exact fin fuel x y p hx hy (by omega)
  | succ j ih =>
    intro fuel x y p q hx hy hq hf
    by_cases q0 : q = 0
    · subst q0
      rw [Nat.gcd_zero_right]
      exact fin fuel x y p hx hy (by omega)
    · have e1 : (x - x / y * y).toInt = ((p % q : Nat) : Int) := by rw [Kit.i64_rem_nonneg (by omega), hx, hy]; rfl
      have hr := Nat.mod_lt p (show 0 < q by omega)
      obtain ⟨fu, rfl, -⟩ := fuel_s (show 0 < fuel by omega)
      rw [one fu x y q hy (by omega), ← gcd_st p q]
      by_cases r0 : p % q = 0
      · rw [r0, Nat.gcd_zero_right]
        exact fin fu y _ q hy (by rw [e1, r0]; rfl) (by omega)
      · have e2 : (y - y / (x - x / y * y) * (x - x / y * y)).toInt = ((q % (p % q) : Nat) : Int) := by rw [Kit.i64_rem_nonneg (by omega), hy, e1]; rfl
        obtain ⟨fu2, rfl, -⟩ := fuel_s (show 0 < fu by omega)
        rw [one fu2 y _ (p % q) e1 (by omega), ← gcd_st q (p % q)]
        exact ih fu2 _ _ (p % q) (q % (p % q)) e1 e2 (half_lt (by omega) hr hq) (by omega)
theorem fr_64 {x y r : Int64} (hy : 0 < y.toInt) (hr : r.toInt = GC x.toInt y.toInt) (hx : -2 ^ 63 < x.toInt) (w : Int32) (M : Mm) : (if w = 0 then (if r = 0 then none else some ((x / r), M)) else (if r = 0 then none else some ((y / r), M))) = some (Int64.ofInt (fr x.toInt y.toInt w), M) := by
  have g := GC_pos (a := x.toInt) hy
  have r0 : ¬ r = 0 := fun q => by rw [q, l0] at hr; omega
  have e1 : (x / r).toInt = x.toInt.tdiv (GC x.toInt y.toInt) := by rw [Kit.i64_div (by omega), hr]
  have e2 : (y / r).toInt = y.toInt.tdiv (GC x.toInt y.toInt) := by rw [Kit.i64_div (by omega), hr]
  unfold fr
  by_cases h : w = 0
  · rw [if_pos h, if_neg r0, if_pos h, ← e1, Int64.ofInt_toInt]
  · rw [if_neg h, if_neg r0, if_neg h, ← e2, Int64.ofInt_toInt]
theorem prt {N : Nat} (hN : 200 ≤ N) {x y : Int64} (hx : ab x.toInt < 2 ^ 62) (hy : 0 < y.toInt) (hy2 : y.toInt < 2 ^ 45) (w : Int32) (M : Mm) : f_X2_partOf N x y w M = some (Int64.ofInt (fr x.toInt y.toInt w), M) := by
  have hb := ab_le.mp (Int.le_of_lt hx)
  have hx' : (if 0 < x then x else -x).toInt = (x.toInt.natAbs : Int) := by
    by_cases h : 0 < x
    · rw [if_pos h]
      have := Int64.lt_iff_toInt_lt.mp h
      rw [l0] at this
      omega
    · rw [if_neg h, Kit.i64_neg (by omega)]
      have : ¬ 0 < x.toInt := fun q => h (Int64.lt_iff_toInt_lt.mpr (by rw [l0]; exact q))
      omega
  obtain ⟨r, r1, r2⟩ := cd_loop (N := N) (M := M) 45 0 N (if 0 < x then x else -x) y x.toInt.natAbs y.toInt.natAbs hx' (by omega) (by omega) (Nat.gcd_pos_of_pos_right _ (by omega)) (by decide) (by omega)
  unfold f_X2_partOf b_X2_partOf_0 f_X2_commonDivisor b_X2_commonDivisor_0
  have r1' : b_X2_commonDivisor_9 N (if 0 < x then x else -x) y 0 M = some (r, M) := r1
  rw [r1', Option.bind_some]
  exact fr_64 hy r2 (by omega) w M
theorem tld {N : Nat} (hN : 200 ≤ N) {x y : Int64} (hx : ab x.toInt < 2 ^ 62) (hy : 0 < y.toInt) (hy2 : y.toInt < 2 ^ 45) (w : Int32) (M : Mm) : f_X3_told N x y w M = some (Int64.ofInt (fr x.toInt y.toInt w), M) := by
  have hb := ab_le.mp (Int.le_of_lt hx)
  obtain ⟨x', e, hx'⟩ : ∃ x' : Int64, f_X3_divisor N x y M = b_X3_divisor_17 N x' y M ∧ x'.toInt = (x.toInt.natAbs : Int) := by
    unfold f_X3_divisor b_X3_divisor_0
    by_cases h : 0 ≤ x.toInt
    · exact ⟨x, if_pos (cmp_ge.mpr (by rw [l0]; exact h)), by omega⟩
    · exact ⟨-x, if_neg (fun q => h (by have := cmp_ge.mp q; rw [l0] at this; exact this)), by rw [Kit.i64_neg (by omega)]; omega⟩
  obtain ⟨r, r1, r2⟩ := dv_loop (N := N) (M := M) 45 N x' y x.toInt.natAbs y.toInt.natAbs hx' (by omega) (by omega) (by omega)
  unfold f_X3_told b_X3_told_0
  have r1' : b_X3_divisor_17 N x' y M = some (r, M) := r1
  rw [e, r1', Option.bind_some]
  exact fr_64 hy r2 (by omega) w M
