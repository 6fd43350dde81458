section Cz
variable {M : Mm} {n cn : Nat} {cc : Nat → Int}
theorem CX.s (h : CX M n cn cc) {g : Nat} (hg : g < cn) : 0 ≤ RY M g 0 ∧ RY M g 0 ≤ 28674 ∧ 0 ≤ RY M g 1 ∧ RY M g 1 ≤ 28674 := by
  obtain ⟨h1, h2, h3, -⟩ := h.2.2.2.2.2 g hg
  exact ⟨(h1 0 (by decide)).1, h2, (h1 1 (by decide)).1, h3⟩
theorem sq_b {a b : Int} (ha : 0 ≤ a ∧ a ≤ 28674) (hb : 0 ≤ b ∧ b ≤ 28674) : 0 ≤ a * b ∧ a * b ≤ 822198276 := by
  have h := mulle (ab_le.mpr (show -28674 ≤ a ∧ a ≤ 28674 by omega)) (ab_le.mpr (show -28674 ≤ b ∧ b ≤ 28674 by omega))
  exact ⟨Int.mul_nonneg ha.1 hb.1, by omega⟩
def lift (cc : Nat → Int) (n : Nat) (M : Mm) (f q p : Nat) : Int := WR cc n M p * (RY M f 0 * RY M q 1 - RY M f 1 * RY M q 0) - WR cc n M q * (RY M f 0 * RY M p 1 - RY M f 1 * RY M p 0) + WR cc n M f * (RY M q 0 * RY M p 1 - RY M q 1 * RY M p 0)
theorem liftA {N : Nat} (hN : 10 ≤ N) (h : CX M n cn cc) {f q p : Nat} (hf : f < cn) (hq : q < cn) (hp : p < cn) : ∃ y : Int64, f_X2_liftAbove N (12 + f) (12 + q) (12 + p) M = some (y, M) ∧ y.toInt = lift cc n M f q p := by
  have hc := h.2.2.2.1
  obtain ⟨yf, f1, f2⟩ := wth_r hN h hf
  obtain ⟨yq, q1, q2⟩ := wth_r hN h hq
  obtain ⟨yp, p1, p2⟩ := wth_r hN h hp
  obtain ⟨a1, a2, a3, a4⟩ := h.s hf
  obtain ⟨b1, b2, b3, b4⟩ := h.s hq
  obtain ⟨c1, c2, c3, c4⟩ := h.s hp
  have sub : ∀ x y z w : Int64, 0 ≤ x.toInt ∧ x.toInt ≤ 28674 → 0 ≤ y.toInt ∧ y.toInt ≤ 28674 → 0 ≤ z.toInt ∧ z.toInt ≤ 28674 → 0 ≤ w.toInt ∧ w.toInt ≤ 28674 → (x * y - z * w).toInt = x.toInt * y.toInt - z.toInt * w.toInt ∧ ab (x.toInt * y.toInt - z.toInt * w.toInt) ≤ 822198276 := fun x y z w hx hy hz hw => by
    have m1 := sq_b hx hy
    have m2 := sq_b hz hw
    have e1 : (x * y).toInt = x.toInt * y.toInt := Kit.i64_mul (by omega) (by omega)
    have e2 : (z * w).toInt = z.toInt * w.toInt := Kit.i64_mul (by omega) (by omega)
    refine ⟨?_, ab_le.mpr ⟨by omega, by omega⟩⟩
    rw [Kit.i64_sub (by omega) (by omega), e1, e2]
  obtain ⟨s1, t1⟩ := sub (M.2.2 (12 + f) 0) (M.2.2 (12 + q) 1) (M.2.2 (12 + f) 1) (M.2.2 (12 + q) 0) ⟨a1, a2⟩ ⟨b3, b4⟩ ⟨a3, a4⟩ ⟨b1, b2⟩
  obtain ⟨s2, t2⟩ := sub (M.2.2 (12 + f) 0) (M.2.2 (12 + p) 1) (M.2.2 (12 + f) 1) (M.2.2 (12 + p) 0) ⟨a1, a2⟩ ⟨c3, c4⟩ ⟨a3, a4⟩ ⟨c1, c2⟩
  obtain ⟨s3, t3⟩ := sub (M.2.2 (12 + q) 0) (M.2.2 (12 + p) 1) (M.2.2 (12 + q) 1) (M.2.2 (12 + p) 0) ⟨b1, b2⟩ ⟨c3, c4⟩ ⟨b3, b4⟩ ⟨c1, c2⟩
  have mw : ∀ (y z : Int64), ab y.toInt ≤ 75497472 → ab z.toInt ≤ 822198276 → (y * z).toInt = y.toInt * z.toInt ∧ ab (y.toInt * z.toInt) ≤ 75497472 * 822198276 := fun y z hy hz => by
    have := mulle hy hz
    exact ⟨Kit.i64_mul (by omega) (by omega), ab_le.mpr this⟩
  obtain ⟨u1, v1⟩ := mw yp _ (by rw [p2]; exact WR_b h hp) (by rw [s1]; exact t1)
  obtain ⟨u2, v2⟩ := mw yq _ (by rw [q2]; exact WR_b h hq) (by rw [s2]; exact t2)
  obtain ⟨u3, v3⟩ := mw yf _ (by rw [f2]; exact WR_b h hf) (by rw [s3]; exact t3)
  have w1 := ab_le.mp v1
  have w2 := ab_le.mp v2
  have w3 := ab_le.mp v3
  rw [← u1] at w1
  rw [← u2] at w2
  rw [← u3] at w3
  have e12 : (yp * (M.2.2 (12 + f) 0 * M.2.2 (12 + q) 1 - M.2.2 (12 + f) 1 * M.2.2 (12 + q) 0) - yq * (M.2.2 (12 + f) 0 * M.2.2 (12 + p) 1 - M.2.2 (12 + f) 1 * M.2.2 (12 + p) 0)).toInt = (yp * (M.2.2 (12 + f) 0 * M.2.2 (12 + q) 1 - M.2.2 (12 + f) 1 * M.2.2 (12 + q) 0)).toInt - (yq * (M.2.2 (12 + f) 0 * M.2.2 (12 + p) 1 - M.2.2 (12 + f) 1 * M.2.2 (12 + p) 0)).toInt := Kit.i64_sub (by omega) (by omega)
  refine ⟨yp * (M.2.2 (12 + f) 0 * M.2.2 (12 + q) 1 - M.2.2 (12 + f) 1 * M.2.2 (12 + q) 0) - yq * (M.2.2 (12 + f) 0 * M.2.2 (12 + p) 1 - M.2.2 (12 + f) 1 * M.2.2 (12 + p) 0) + yf * (M.2.2 (12 + q) 0 * M.2.2 (12 + p) 1 - M.2.2 (12 + q) 1 * M.2.2 (12 + p) 0), ?_, ?_⟩
  · unfold f_X2_liftAbove b_X2_liftAbove_0
    rw [p1, Option.bind_some]
    dsimp only
    rw [rR0 (by omega), Option.bind_some, rR1 (by omega), Option.bind_some, rR1 (by omega), Option.bind_some, rR0 (by omega), Option.bind_some, q1, Option.bind_some]
    dsimp only
    rw [rR0 (by omega), Option.bind_some, rR1 (by omega), Option.bind_some, rR1 (by omega), Option.bind_some, rR0 (by omega), Option.bind_some, f1, Option.bind_some]
    dsimp only
    rw [rR0 (by omega), Option.bind_some, rR1 (by omega), Option.bind_some, rR1 (by omega), Option.bind_some, rR0 (by omega), Option.bind_some]
  · rw [Kit.i64_add (by omega) (by omega), e12, u1, u2, u3, s1, s2, s3, p2, q2, f2]
    rfl
def kS (cc : Nat → Int) (n : Nat) (M : Mm) (f g j : Nat) : Int := if j = 0 then - (WR cc n M g * DT M f - WR cc n M f * DT M g) else - RY M g 1
def dS (M : Mm) (f g j : Nat) : Int := if j = 0 then RY M g 1 * DT M f - RY M f 1 * DT M g else DT M g
theorem lift_eq (Wf Wg Wk f0 f1 g0 g1 k0 k1 : Int) : - (Wg * (f0 + f1) - Wf * (g0 + g1)) * (k1 * (f0 + f1) - f1 * (k0 + k1)) = - (Wk * (f0 + f1) - Wf * (k0 + k1)) * (g1 * (f0 + f1) - f1 * (g0 + g1)) - (f0 + f1) * (Wg * (f0 * k1 - f1 * k0) - Wk * (f0 * g1 - f1 * g0) + Wf * (k0 * g1 - k1 * g0)) := by grind
theorem isSt {N : Nat} (hN : 10 ≤ N) (h : CX M n cn cc) {f g k : Nat} (hf : f < cn) (hg : g < cn) (hk : k < cn) (hD : 0 < DT M f) : ∃ r, f_X2_isSteeper N (12 + f) (12 + g) (12 + k) M = some (r, M) ∧ (r = 0 ∨ r = 1) ∧ (r = 1 ↔ LX (kS cc n M f g) (dS M f g) (kS cc n M f k) (dS M f k) 2 0) := by
  obtain ⟨y, l1, l2⟩ := liftA hN h hf hk hg
  have ht := tm_eq (RY M g 1) (RY M g 0) (RY M k 0) (RY M k 1)
  have he := lift_eq (WR cc n M f) (WR cc n M g) (WR cc n M k) (RY M f 0) (RY M f 1) (RY M g 0) (RY M g 1) (RY M k 0) (RY M k 1)
  have hL : LX (kS cc n M f g) (dS M f g) (kS cc n M f k) (dS M f k) 2 0 ↔ (0 < lift cc n M f k g ∨ (lift cc n M f k g = 0 ∧ RY M k 1 * RY M g 0 < RY M g 1 * RY M k 0)) := by
    have a0 : kS cc n M f g 0 * dS M f k 0 = kS cc n M f k 0 * dS M f g 0 - DT M f * lift cc n M f k g := he
    have a1 : kS cc n M f g 1 * dS M f k 1 = - RY M g 1 * (RY M k 0 + RY M k 1) := rfl
    have a2 : kS cc n M f k 1 * dS M f g 1 = - RY M k 1 * (RY M g 0 + RY M g 1) := rfl
    rw [Int.neg_mul] at a1 a2
    have pos : 0 < DT M f * lift cc n M f k g ↔ 0 < lift cc n M f k g := ⟨fun q => Int.not_le.mp (fun hle => by
      have := Int.mul_nonneg (Int.le_of_lt hD) (show 0 ≤ - lift cc n M f k g by omega)
      rw [Int.mul_neg] at this
      omega), fun q => Int.mul_pos hD q⟩
    have zer : DT M f * lift cc n M f k g = 0 ↔ lift cc n M f k g = 0 := ⟨fun q => by
      rcases Int.mul_eq_zero.mp q with q | q
      · omega
      · exact q, fun q => by rw [q, Int.mul_zero]⟩
    constructor
    · intro q
      rcases q with q | ⟨q, q'⟩
      · exact Or.inl (pos.mp (by omega))
      · refine Or.inr ⟨zer.mp (by omega), ?_⟩
        rcases q' with q' | ⟨-, q'⟩
        · have : kS cc n M f g 1 * dS M f k 1 < kS cc n M f k 1 * dS M f g 1 := q'
          omega
        · exact q'.elim
    · intro q
      rcases q with q | ⟨q, q'⟩
      · have := pos.mpr q
        exact Or.inl (by omega)
      · have := zer.mpr q
        refine Or.inr ⟨by omega, Or.inl ?_⟩
        show kS cc n M f g 1 * dS M f k 1 < kS cc n M f k 1 * dS M f g 1
        omega
  unfold f_X2_isSteeper b_X2_isSteeper_0
  rw [l1, Option.bind_some]
  dsimp only
  by_cases e : lift cc n M f k g = 0
  · rw [if_pos (cmp_eq.mpr (by rw [l2, l0]; exact e)), cmpT h hg hk, Option.bind_some]
    dsimp only
    by_cases l : RY M g 1 * RY M k 0 ≤ RY M k 1 * RY M g 0
    · rw [if_pos (cmpI_le.mpr l)]
      refine ⟨0, rfl, Or.inl rfl, ⟨fun q => absurd q (by decide), fun q => ?_⟩⟩
      rcases hL.mp q with q | ⟨-, q⟩ <;> omega
    · rw [if_neg (fun q => l (cmpI_le.mp q))]
      exact ⟨1, rfl, Or.inr rfl, ⟨fun _ => hL.mpr (Or.inr ⟨e, by omega⟩), fun _ => rfl⟩⟩
  · rw [if_neg (fun q => e (by have := cmp_eq.mp q; rw [l2, l0] at this; exact this))]
    by_cases l : lift cc n M f k g ≤ 0
    · rw [if_pos (cmp_le.mpr (by rw [l2, l0]; exact l))]
      refine ⟨0, rfl, Or.inl rfl, ⟨fun q => absurd q (by decide), fun q => ?_⟩⟩
      rcases hL.mp q with q | ⟨q, -⟩ <;> omega
    · rw [if_neg (fun q => l (by have := cmp_le.mp q; rw [l2, l0] at this; exact this))]
      exact ⟨1, rfl, Or.inr rfl, ⟨fun _ => hL.mpr (Or.inl (by omega)), fun _ => rfl⟩⟩
/-! the loops -/
def isP (M : Mm) (g : Nat) : Prop := 0 < RY M g 0 ∧ RY M g 1 = 0
def ltB (cc : Nat → Int) (n : Nat) (M : Mm) (g k : Nat) : Prop := LX (kB cc n M g) (dB M g) (kB cc n M k) (dB M k) (n + 1) 0
theorem best_loop {N : Nat} (hN : 10 ≤ N) (h : CX M n cn cc) : ∀ (d g at_ fuel : Nat), g + d = cn → d < fuel → at_ < cn → AM (isP M) (ltB cc n M) at_ g →
    ∃ a, lpT (fun _ _ _ => none) (F_X2_bestRay_12 N) fuel (12 + at_) (nI g) M = some (12 + a, M) ∧ a < cn ∧ AM (isP M) (ltB cc n M) a cn := by
  have hc := h.2.2.2.1
  have tr : ∀ a b c, isP M a → isP M b → isP M c → ltB cc n M a b → ltB cc n M b c → ltB cc n M a c := fun a b c pa pb pc x y => lx_tr (n := n + 1) (fun _ _ => pa.1) (fun _ _ => pb.1) (fun _ _ => pc.1) (n + 1) 0 (by omega) x y
  have ir : ∀ g, ¬ ltB cc n M g g := fun g => lx_ir (n + 1) 0
  intro d
  induction d with
  | zero =>
    intro g at_ fuel hg hf ha hA
    obtain ⟨x, rfl, -⟩ := fuel_s hf
    refine ⟨at_, ?_, ha, by rw [← (show g = cn by omega)]; exact hA⟩
    rw [lp_s]
    generalize lpT (fun _ _ _ => none) (F_X2_bestRay_12 N) x = q
    unfold F_X2_bestRay_12
    rw [h.2.2.1, if_pos ((nI_leI (by omega) (by omega)).mpr (by omega))]
  | succ d ih =>
    intro g at_ fuel hg hf ha hA
    obtain ⟨x, rfl, hx⟩ := fuel_s hf
    have step : ∀ at', at' < cn → AM (isP M) (ltB cc n M) at' (g + 1) → ∃ a, lpT (fun _ _ _ => none) (F_X2_bestRay_12 N) x (12 + at') (nI (g + 1)) M = some (12 + a, M) ∧ a < cn ∧ AM (isP M) (ltB cc n M) a cn := fun at' h1 h2 => ih (g + 1) at' x (by omega) hx h1 h2
    rw [lp_s]
    generalize lpT (fun _ _ _ => none) (F_X2_bestRay_12 N) x = q at step ⊢
    unfold F_X2_bestRay_12
    rw [h.2.2.1, if_neg (fun q => by have := (nI_leI (by omega) (by omega)).mp q; omega), rO2 (by omega), Option.bind_some, isPt (by omega), Option.bind_some]
    dsimp only
    by_cases pg : isP M g
    · rw [if_pos (show 0 < RY M g 0 ∧ RY M g 1 = 0 from pg), if_neg (by decide), isPt (by omega), Option.bind_some]
      dsimp only
      by_cases pa : isP M at_
      · rw [if_pos (show 0 < RY M at_ 0 ∧ RY M at_ 1 = 0 from pa), if_neg (by decide)]
        obtain ⟨r, r1, r2, r3⟩ := isBt hN h (show g < cn by omega) ha
        rw [r1, Option.bind_some]
        dsimp only
        rw [nI_1]
        rcases r2 with rfl | rfl
        · rw [if_pos rfl]
          exact step at_ ha (hA.keep pa (fun q => absurd (r3.mpr q) (by decide)))
        · rw [if_neg (by decide)]
          exact step g (by omega) (hA.take ir tr pa pg (r3.mp rfl))
      · rw [if_neg (show ¬ (0 < RY M at_ 0 ∧ RY M at_ 1 = 0) from pa), if_pos rfl, nI_1]
        exact step g (by omega) (hA.first ir pa pg)
    · rw [if_neg (show ¬ (0 < RY M g 0 ∧ RY M g 1 = 0) from pg), if_pos rfl, nI_1]
      exact step at_ ha (hA.no pg)
theorem AM.one {P : Nat → Prop} {lt : Nat → Nat → Prop} (ir : ∀ g, ¬ lt g g) : AM P lt 0 1 := by
  rcases Classical.em (P 0) with p | p
  · exact Or.inl ⟨p, fun g' hg _ => by rw [show g' = 0 by omega]; exact ir 0⟩
  · exact Or.inr ⟨p, fun g' hg => by rw [show g' = 0 by omega]; exact p⟩
theorem AM.fin {P : Nat → Prop} {lt : Nat → Nat → Prop} {at_ cn : Nat} (h : AM P lt at_ cn) (hx : ∃ g, g < cn ∧ P g) : P at_ ∧ ∀ g, g < cn → P g → ¬ lt g at_ := by
  rcases h with h | ⟨-, h⟩
  · exact h
  · obtain ⟨g, a, b⟩ := hx
    exact absurd b (h g a)
theorem best_s {N : Nat} (hN : 200 ≤ N) (h : CX M n cn cc) (hx : ∃ g, g < cn ∧ isP M g) : ∃ a, f_X2_bestRay N M = some (12 + a, M) ∧ a < cn ∧ isP M a ∧ ∀ g, g < cn → isP M g → ¬ ltB cc n M g a := by
  have hc := h.2.2.2.1
  have h1 : 1 ≤ cn := by obtain ⟨g, hg, -⟩ := hx; omega
  obtain ⟨a, a1, a2, a3⟩ := best_loop (N := N) (by omega) h (cn - 1) 1 0 N (by omega) (by omega) h1 (AM.one (fun g => lx_ir (n + 1) 0))
  obtain ⟨b1, b2⟩ := a3.fin hx
  refine ⟨a, ?_, a2, b1, b2⟩
  unfold f_X2_bestRay b_X2_bestRay_0
  rw [show rO 2 0 = some (12 + 0) from rO2 (i := 0) (by decide), Option.bind_some]
  exact a1
end Cz
