section Cy
variable {M : Mm} {n cn : Nat} {cc : Nat → Int}
/-- the keys by which the best point is found, and the earliest, and the farthest -/
def kB (cc : Nat → Int) (n : Nat) (M : Mm) (g j : Nat) : Int := if j = 0 then - WR cc n M g else RY M g (1 + j)
def dB (M : Mm) (g _j : Nat) : Int := RY M g 0
theorem isBt_loop {N : Nat} (h : CX M n cn cc) {g k : Nat} (hg : g < cn) (hk : k < cn) : ∀ (d j fuel : Nat), j + d = n + 1 → 1 ≤ j → d < fuel →
    ∃ r, lpT (fun _ _ _ _ => none) (F_X2_isBetter_45 N) fuel (12 + g) (12 + k) (nI (1 + j)) M = some (r, M) ∧ (r = 0 ∨ r = 1) ∧ (r = 1 ↔ LX (kB cc n M g) (dB M g) (kB cc n M k) (dB M k) d j) := by
  have hn := h.1
  have hc := h.2.2.2.1
  intro d
  induction d with
  | zero =>
    intro j fuel hj h1 hf
    obtain ⟨x, rfl, -⟩ := fuel_s hf
    refine ⟨0, ?_, Or.inl rfl, ⟨fun q => absurd q (by decide), fun q => q.elim⟩⟩
    rw [lp_s]
    generalize lpT (fun _ _ _ _ => none) (F_X2_isBetter_45 N) x = q
    unfold F_X2_isBetter_45
    rw [colm h.2.1, Option.bind_some]
    dsimp only
    rw [if_pos ((nI_leI (by omega) (by omega)).mpr (by omega))]
  | succ d ih =>
    intro j fuel hj h1 hf
    obtain ⟨x, rfl, hx⟩ := fuel_s hf
    obtain ⟨r0, i1, i2, i3⟩ := ih (j + 1) x (by omega) (by omega) hx
    have b1 := mulle (h.r hg (c := 1 + j) (by omega)) (h.r hk (c := 0) (by decide))
    have b2 := mulle (h.r hk (c := 1 + j) (by omega)) (h.r hg (c := 0) (by decide))
    have key : ∀ q, F_X2_isBetter_45 N q (12 + g) (12 + k) (nI (1 + j)) M = if cmpI (RY M g (1 + j) * RY M k 0) (RY M k (1 + j) * RY M g 0) = 0 then q (12 + g) (12 + k) (nI (1 + (j + 1))) M else if 0 ≤ cmpI (RY M g (1 + j) * RY M k 0) (RY M k (1 + j) * RY M g 0) then some (0, M) else some (1, M) := by
      intro q
      unfold F_X2_isBetter_45
      rw [colm h.2.1, Option.bind_some]
      dsimp only
      rw [if_neg (fun q => by have := (nI_leI (by omega) (by omega)).mp q; omega), rR (by omega) (by omega), Option.bind_some, rR0 (by omega), Option.bind_some, rR (by omega) (by omega), Option.bind_some, rR0 (by omega), Option.bind_some, jcmp, Option.bind_some]
      dsimp only
      rw [Kit.i64_mul (by omega) (by omega), Kit.i64_mul (by omega) (by omega), nI_1]
      rfl
    have kj : ∀ g, kB cc n M g j = RY M g (1 + j) := fun g => by unfold kB; rw [if_neg (by omega)]
    rw [lp_s, key]
    by_cases e : RY M g (1 + j) * RY M k 0 = RY M k (1 + j) * RY M g 0
    · rw [if_pos (cmpI_0.mpr e)]
      refine ⟨r0, i1, i2, i3.trans ⟨fun q => Or.inr ⟨?_, q⟩, fun q => ?_⟩⟩
      · rw [kj, kj]; exact e
      · rcases q with q | ⟨-, q⟩
        · rw [kj, kj] at q
          have : RY M g (1 + j) * RY M k 0 < RY M k (1 + j) * RY M g 0 := q
          omega
        · exact q
    · rw [if_neg (fun q => e (cmpI_0.mp q))]
      by_cases l : RY M k (1 + j) * RY M g 0 ≤ RY M g (1 + j) * RY M k 0
      · rw [if_pos (cmpI_ge.mpr l)]
        refine ⟨0, rfl, Or.inl rfl, ⟨fun q => absurd q (by decide), fun q => ?_⟩⟩
        rcases q with q | ⟨q, -⟩
        · rw [kj, kj] at q
          have : RY M g (1 + j) * RY M k 0 < RY M k (1 + j) * RY M g 0 := q
          omega
        · rw [kj, kj] at q
          exact absurd q e
      · rw [if_neg (fun q => l (cmpI_ge.mp q))]
        refine ⟨1, rfl, Or.inr rfl, ⟨fun _ => Or.inl ?_, fun _ => rfl⟩⟩
        rw [kj, kj]
        show RY M g (1 + j) * RY M k 0 < RY M k (1 + j) * RY M g 0
        omega
theorem isBt {N : Nat} (hN : 10 ≤ N) (h : CX M n cn cc) {g k : Nat} (hg : g < cn) (hk : k < cn) : ∃ r, f_X2_isBetter N (12 + g) (12 + k) M = some (r, M) ∧ (r = 0 ∨ r = 1) ∧ (r = 1 ↔ LX (kB cc n M g) (dB M g) (kB cc n M k) (dB M k) (n + 1) 0) := by
  have hn := h.1
  have hc := h.2.2.2.1
  obtain ⟨y1, p1, p2⟩ := wth_r hN h hg
  obtain ⟨y2, q1, q2⟩ := wth_r hN h hk
  obtain ⟨r0, i1, i2, i3⟩ := isBt_loop (N := N) h hg hk n 1 N (by omega) (by omega) (by omega)
  have b1 := mulle (WR_b h hg) (h.r hk (c := 0) (by decide))
  have b2 := mulle (WR_b h hk) (h.r hg (c := 0) (by decide))
  rw [← p2] at b1
  rw [← q2] at b2
  have k0 : ∀ g, kB cc n M g 0 = - WR cc n M g := fun g => rfl
  unfold f_X2_isBetter b_X2_isBetter_0
  rw [p1, Option.bind_some]
  dsimp only
  rw [rR0 (by omega), Option.bind_some, q1, Option.bind_some]
  dsimp only
  rw [rR0 (by omega), Option.bind_some, jcmp, Option.bind_some]
  dsimp only
  rw [Kit.i64_mul (by omega) (by omega), Kit.i64_mul (by omega) (by omega), p2, q2]
  show ∃ r, (if cmpI (WR cc n M g * RY M k 0) (WR cc n M k * RY M g 0) = 0 then _ else if cmpI (WR cc n M g * RY M k 0) (WR cc n M k * RY M g 0) ≤ 0 then _ else _) = _ ∧ _
  by_cases e : WR cc n M g * RY M k 0 = WR cc n M k * RY M g 0
  · rw [if_pos (cmpI_0.mpr e)]
    refine ⟨r0, i1, i2, i3.trans ⟨fun q => Or.inr ⟨?_, q⟩, fun q => ?_⟩⟩
    · rw [k0, k0]
      show - WR cc n M g * RY M k 0 = - WR cc n M k * RY M g 0
      rw [Int.neg_mul, Int.neg_mul, e]
    · rcases q with q | ⟨-, q⟩
      · rw [k0, k0] at q
        have : - WR cc n M g * RY M k 0 < - WR cc n M k * RY M g 0 := q
        rw [Int.neg_mul, Int.neg_mul] at this
        omega
      · exact q
  · rw [if_neg (fun q => e (cmpI_0.mp q))]
    by_cases l : WR cc n M g * RY M k 0 ≤ WR cc n M k * RY M g 0
    · rw [if_pos (cmpI_le.mpr l)]
      refine ⟨0, rfl, Or.inl rfl, ⟨fun q => absurd q (by decide), fun q => ?_⟩⟩
      rcases q with q | ⟨q, -⟩
      · rw [k0, k0] at q
        have : - WR cc n M g * RY M k 0 < - WR cc n M k * RY M g 0 := q
        rw [Int.neg_mul, Int.neg_mul] at this
        omega
      · rw [k0, k0] at q
        have : - WR cc n M g * RY M k 0 = - WR cc n M k * RY M g 0 := q
        rw [Int.neg_mul, Int.neg_mul] at this
        omega
    · rw [if_neg (fun q => l (cmpI_le.mp q))]
      refine ⟨1, rfl, Or.inr rfl, ⟨fun _ => Or.inl ?_, fun _ => rfl⟩⟩
      rw [k0, k0]
      show - WR cc n M g * RY M k 0 < - WR cc n M k * RY M g 0
      rw [Int.neg_mul, Int.neg_mul]
      omega
/-- farther in one variable -/
def kF (high : Prop) [Decidable high] (M : Mm) (c g _j : Nat) : Int := if high then - RY M g c else RY M g c
theorem isFa {N : Nat} (h : CX M n cn cc) {g k j : Nat} (hg : g < cn) (hk : k < cn) (hj : j < n) (x3 : Int32) : ∃ r, f_X2_isFarther N (12 + g) (12 + k) (nI j) x3 M = some (r, M) ∧ (r = 0 ∨ r = 1) ∧ (r = 1 ↔ LX (kF (x3 ≠ 0) M (2 + j) g) (dB M g) (kF (x3 ≠ 0) M (2 + j) k) (dB M k) 1 0) := by
  have hn := h.1
  have hc := h.2.2.2.1
  have b1 := mulle (h.r hg (c := 2 + j) (by omega)) (h.r hk (c := 0) (by decide))
  have b2 := mulle (h.r hk (c := 2 + j) (by omega)) (h.r hg (c := 0) (by decide))
  have hL : LX (kF (x3 ≠ 0) M (2 + j) g) (dB M g) (kF (x3 ≠ 0) M (2 + j) k) (dB M k) 1 0 ↔ kF (x3 ≠ 0) M (2 + j) g 0 * RY M k 0 < kF (x3 ≠ 0) M (2 + j) k 0 * RY M g 0 := ⟨fun q => by
    rcases q with q | ⟨-, q⟩
    · exact q
    · exact q.elim, fun q => Or.inl q⟩
  unfold f_X2_isFarther b_X2_isFarther_0
  rw [ix2, rR (by omega) (by omega), Option.bind_some, rR0 (by omega), Option.bind_some, rR (by omega) (by omega), Option.bind_some, rR0 (by omega), Option.bind_some, jcmp, Option.bind_some]
  dsimp only
  rw [Kit.i64_mul (by omega) (by omega), Kit.i64_mul (by omega) (by omega)]
  show ∃ r, (if x3 = 0 then (if 0 ≤ cmpI (RY M g (2 + j) * RY M k 0) (RY M k (2 + j) * RY M g 0) then _ else _) else (if cmpI (RY M g (2 + j) * RY M k 0) (RY M k (2 + j) * RY M g 0) ≤ 0 then _ else _)) = _ ∧ _
  by_cases e : x3 = 0
  · rw [if_pos e]
    have k1 : ∀ g, kF (x3 ≠ 0) M (2 + j) g 0 = RY M g (2 + j) := fun g => if_neg (fun q => q e)
    rw [k1, k1] at hL
    by_cases l : RY M k (2 + j) * RY M g 0 ≤ RY M g (2 + j) * RY M k 0
    · rw [if_pos (cmpI_ge.mpr l)]
      exact ⟨0, rfl, Or.inl rfl, ⟨fun q => absurd q (by decide), fun q => by have := hL.mp q; omega⟩⟩
    · rw [if_neg (fun q => l (cmpI_ge.mp q))]
      exact ⟨1, rfl, Or.inr rfl, ⟨fun _ => hL.mpr (by omega), fun _ => rfl⟩⟩
  · rw [if_neg e]
    have k1 : ∀ g, kF (x3 ≠ 0) M (2 + j) g 0 = - RY M g (2 + j) := fun g => if_pos e
    rw [k1, k1, Int.neg_mul, Int.neg_mul] at hL
    by_cases l : RY M g (2 + j) * RY M k 0 ≤ RY M k (2 + j) * RY M g 0
    · rw [if_pos (cmpI_le.mpr l)]
      exact ⟨0, rfl, Or.inl rfl, ⟨fun q => absurd q (by decide), fun q => by have := hL.mp q; omega⟩⟩
    · rw [if_neg (fun q => l (cmpI_le.mp q))]
      exact ⟨1, rfl, Or.inr rfl, ⟨fun _ => hL.mpr (by omega), fun _ => rfl⟩⟩
/-- earlier, and at the same time higher -/
def DT (M : Mm) (g : Nat) : Int := RY M g 0 + RY M g 1
def kE (cc : Nat → Int) (n : Nat) (M : Mm) (g j : Nat) : Int := if j = 0 then RY M g 1 else - WR cc n M g
def dE (M : Mm) (g _j : Nat) : Int := DT M g
theorem tm_eq (a b c d : Int) : a * (c + d) - d * (b + a) = a * c - d * b := by grind
theorem isEa {N : Nat} (hN : 10 ≤ N) (h : CX M n cn cc) {g k : Nat} (hg : g < cn) (hk : k < cn) : ∃ r, f_X2_isEarlier N (12 + g) (12 + k) M = some (r, M) ∧ (r = 0 ∨ r = 1) ∧ (r = 1 ↔ LX (kE cc n M g) (dE M g) (kE cc n M k) (dE M k) 2 0) := by
  have hc := h.2.2.2.1
  obtain ⟨y1, p1, p2⟩ := wth_r hN h hg
  obtain ⟨y2, q1, q2⟩ := wth_r hN h hk
  have g0 := ab_le.mp (h.r hg (c := 0) (by decide))
  have g1 := ab_le.mp (h.r hg (c := 1) (by decide))
  have k0 := ab_le.mp (h.r hk (c := 0) (by decide))
  have k1 := ab_le.mp (h.r hk (c := 1) (by decide))
  have es : (M.2.2 (12 + k) 0 + M.2.2 (12 + k) 1).toInt = DT M k := Kit.i64_add (by omega) (by omega)
  have es' : (M.2.2 (12 + g) 0 + M.2.2 (12 + g) 1).toInt = DT M g := Kit.i64_add (by omega) (by omega)
  have bk : ab (DT M k) ≤ 2 ^ 22 := ab_le.mpr (by unfold DT RY; omega)
  have bg : ab (DT M g) ≤ 2 ^ 22 := ab_le.mpr (by unfold DT RY; omega)
  have b1 := mulle (WR_b h hg) bk
  have b2 := mulle (WR_b h hk) bg
  rw [← p2, ← es] at b1
  rw [← q2, ← es'] at b2
  have ht := tm_eq (RY M g 1) (RY M g 0) (RY M k 0) (RY M k 1)
  have hL : LX (kE cc n M g) (dE M g) (kE cc n M k) (dE M k) 2 0 ↔ (RY M g 1 * RY M k 0 < RY M k 1 * RY M g 0 ∨ (RY M g 1 * RY M k 0 = RY M k 1 * RY M g 0 ∧ WR cc n M k * DT M g < WR cc n M g * DT M k)) := by
    have e0 : ∀ g, kE cc n M g 0 = RY M g 1 := fun _ => rfl
    have e1 : ∀ g, kE cc n M g 1 = - WR cc n M g := fun _ => rfl
    have d0 : ∀ g j, dE M g j = RY M g 0 + RY M g 1 := fun _ _ => rfl
    constructor
    · intro q
      rcases q with q | ⟨q, q'⟩
      · rw [e0, e0, d0, d0] at q
        exact Or.inl (by omega)
      · rw [e0, e0, d0, d0] at q
        rcases q' with q' | ⟨-, q'⟩
        · have : - WR cc n M g * DT M k < - WR cc n M k * DT M g := q'
          rw [Int.neg_mul, Int.neg_mul] at this
          exact Or.inr ⟨by omega, by omega⟩
        · exact q'.elim
    · intro q
      rcases q with q | ⟨q, q'⟩
      · refine Or.inl ?_
        rw [e0, e0, d0, d0]; omega
      · refine Or.inr ⟨?_, Or.inl ?_⟩
        · rw [e0, e0, d0, d0]; omega
        · show - WR cc n M g * DT M k < - WR cc n M k * DT M g
          rw [Int.neg_mul, Int.neg_mul]; omega
  unfold f_X2_isEarlier b_X2_isEarlier_0
  rw [cmpT h hg hk, Option.bind_some]
  dsimp only
  by_cases e : RY M g 1 * RY M k 0 = RY M k 1 * RY M g 0
  · rw [if_pos (cmpI_0.mpr e), rR0 (by omega), Option.bind_some, rR1 (by omega), Option.bind_some, rR0 (by omega), Option.bind_some, rR1 (by omega), Option.bind_some, p1, Option.bind_some]
    dsimp only
    rw [q1, Option.bind_some]
    dsimp only
    have m1 : (y1 * (M.2.2 (12 + k) 0 + M.2.2 (12 + k) 1)).toInt = WR cc n M g * DT M k := by rw [Kit.i64_mul (by omega) (by omega), p2, es]
    have m2 : (y2 * (M.2.2 (12 + g) 0 + M.2.2 (12 + g) 1)).toInt = WR cc n M k * DT M g := by rw [Kit.i64_mul (by omega) (by omega), q2, es']
    by_cases l : WR cc n M g * DT M k ≤ WR cc n M k * DT M g
    · rw [if_pos (cmp_le.mpr (by rw [m1, m2]; exact l))]
      refine ⟨0, rfl, Or.inl rfl, ⟨fun q => absurd q (by decide), fun q => ?_⟩⟩
      rcases hL.mp q with q | ⟨-, q⟩ <;> omega
    · rw [if_neg (fun q => l (by have := cmp_le.mp q; rw [m1, m2] at this; exact this))]
      exact ⟨1, rfl, Or.inr rfl, ⟨fun _ => hL.mpr (Or.inr ⟨e, by omega⟩), fun _ => rfl⟩⟩
  · rw [if_neg (fun q => e (cmpI_0.mp q))]
    by_cases l : RY M k 1 * RY M g 0 ≤ RY M g 1 * RY M k 0
    · rw [if_pos (cmpI_ge.mpr l)]
      refine ⟨0, rfl, Or.inl rfl, ⟨fun q => absurd q (by decide), fun q => ?_⟩⟩
      rcases hL.mp q with q | ⟨q, -⟩ <;> omega
    · rw [if_neg (fun q => l (cmpI_ge.mp q))]
      exact ⟨1, rfl, Or.inr rfl, ⟨fun _ => hL.mpr (Or.inl (by omega)), fun _ => rfl⟩⟩
end Cy
