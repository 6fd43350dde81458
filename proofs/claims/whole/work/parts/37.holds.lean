/-! THE REFERENCE: holds -/
/-- how far bound k's sum is above its right side, times d -/
def exs (w : Nat) (bb : Nat → Nat → Int) (br : Nat → Int) (k : Nat) (v : Nat → Int) (d : Int) : Int := - br k * d + sm (fun j => bb k j * v j) w
def fitS (s : Int32) (x : Int) : Prop := if s = 0 then x ≤ 0 else if s = 1 then x = 0 else 0 ≤ x
/-- small enough: numbers that may be multiplied by small ones and added -/
theorem i64_small {x : Int} (h1 : -2 ^ 62 ≤ x) (h2 : x ≤ 2 ^ 62) : -2 ^ 63 ≤ x ∧ x < 2 ^ 63 := by omega
theorem lnL2 : lnL 2 = 650 := by decide
theorem lnL3 : lnL 3 = 130 := by decide
theorem lnL4 : lnL 4 = 130 := by decide
theorem mulle {x y B C : Int} (hx : ab x ≤ B) (hy : ab y ≤ C) : -(B * C) ≤ x * y ∧ x * y ≤ B * C := ab_le.mp (ab_mul_le hx hy)
set_option maxHeartbeats 1000000 in
theorem hld_loop {N w k f : Nat} (hw5 : w ≤ 5) (hk : k < 9) (hf130 : f < 130) {M : Mm} (hw : M.1 7 = nI w) (hfd : M.1 9 = nI f) (hb : ∀ j, j < w → ab (M.2.1 11 (5 * k + j)).toInt ≤ 50) (ha : ∀ j, j < w → ab (M.2.2 2 (5 * f + j)).toInt ≤ 2 ^ 40) :
    ∀ (d j fuel : Nat) (x2 : Int64), j + d = w → d < fuel → ab x2.toInt ≤ 2 ^ 50 + j * 2 ^ 50 → lpT (fun _ _ _ _ => none) (F_X3_holds_22 N) fuel (nI k) x2 (nI j) M = lpT (fun _ _ _ _ => none) (F_X3_holds_22 N) (fuel - d) (nI k) (Int64.ofInt (x2.toInt + (sm (fun j => (M.2.1 11 (5 * k + j)).toInt * (M.2.2 2 (5 * f + j)).toInt) w - sm (fun j => (M.2.1 11 (5 * k + j)).toInt * (M.2.2 2 (5 * f + j)).toInt) j))) (nI w) M := by
  intro d
  induction d with
  | zero =>
    intro j fuel x2 hj hf hx
    have : j = w := by omega
    subst this
    rw [Int.sub_self, Int.add_zero, Int64.ofInt_toInt]
    rfl
  | succ d ih =>
    intro j fuel x2 hj hf hx
    obtain ⟨n, rfl, hn⟩ := fuel_s hf
    have b1 := hb j (by omega)
    have b2 := ha j (by omega)
    have b3 := mulle b1 b2
    have hx' := ab_le.mp hx
    have e1 : ((M.2.1 11 (5 * k + j)).toInt64 * M.2.2 2 (5 * f + j)).toInt = (M.2.1 11 (5 * k + j)).toInt * (M.2.2 2 (5 * f + j)).toInt := by
      rw [Kit.i64_mul (by rw [Kit.i64_of_i32]; omega) (by rw [Kit.i64_of_i32]; omega), Kit.i64_of_i32]
    have e2 : (x2 + (M.2.1 11 (5 * k + j)).toInt64 * M.2.2 2 (5 * f + j)).toInt = x2.toInt + (M.2.1 11 (5 * k + j)).toInt * (M.2.2 2 (5 * f + j)).toInt := by
      rw [Kit.i64_add (by rw [e1]; omega) (by rw [e1]; omega), e1]
    have := ih (j + 1) n (x2 + (M.2.1 11 (5 * k + j)).toInt64 * M.2.2 2 (5 * f + j)) (by omega) (by omega) (by rw [e2]; apply ab_le.mpr; omega)
    rw [e2] at this
    rw [lp_s]
    have hst : F_X3_holds_22 N (lpT (fun _ _ _ _ => none) (F_X3_holds_22 N) n) (nI k) x2 (nI j) M = lpT (fun _ _ _ _ => none) (F_X3_holds_22 N) n (nI k) (x2 + (M.2.1 11 (5 * k + j)).toInt64 * M.2.2 2 (5 * f + j)) (nI (j + 1)) M := by
      generalize lpT (fun _ _ _ _ => none) (F_X3_holds_22 N) n = g
      unfold F_X3_holds_22
      rw [hw, if_neg (fun h => by have := (nI_leI (by omega) (by omega)).mp h; omega), ix5, rA_i (by rw [lnA11]; omega), Option.bind_some, hfd, ix5, rL_i (by rw [lnL2]; omega), Option.bind_some, nI_1]
    have hS : sm (fun j => (M.2.1 11 (5 * k + j)).toInt * (M.2.2 2 (5 * f + j)).toInt) (j + 1) = sm (fun j => (M.2.1 11 (5 * k + j)).toInt * (M.2.2 2 (5 * f + j)).toInt) j + (M.2.1 11 (5 * k + j)).toInt * (M.2.2 2 (5 * f + j)).toInt := rfl
    rw [hS] at this
    rw [hst, this, show n + 1 - (d + 1) = n - d by omega]
    generalize sm (fun j => (M.2.1 11 (5 * k + j)).toInt * (M.2.2 2 (5 * f + j)).toInt) w = S1
    generalize sm (fun j => (M.2.1 11 (5 * k + j)).toInt * (M.2.2 2 (5 * f + j)).toInt) j = S2
    generalize (M.2.1 11 (5 * k + j)).toInt * (M.2.2 2 (5 * f + j)).toInt = S3
    rw [show x2.toInt + S3 + (S1 - (S2 + S3)) = x2.toInt + (S1 - S2) by omega]
theorem sm_le {f : Nat → Int} {B : Int} : ∀ {n : Nat}, (∀ i, i < n → ab (f i) ≤ B) → ab (sm f n) ≤ n * B
  | 0, _ => by show ab 0 ≤ (0 : Nat) * B; simp; decide
  | n + 1, h => by
    have h1 := sm_le (fun i hi => h i (Nat.lt_succ_of_lt hi)) (n := n)
    have h2 := h n (Nat.lt_succ_self n)
    have h3 := ab_add (sm f n) (f n)
    show ab (sm f n + f n) ≤ ((n + 1 : Nat) : Int) * B
    rw [Int.natCast_add, Int.add_mul]
    omega
set_option maxHeartbeats 1000000 in
theorem hld {N w k f : Nat} (hN : 10 ≤ N) (hw5 : w ≤ 5) (hk : k < 9) (hf130 : f < 130) {M : Mm} (hw : M.1 7 = nI w) (hfd : M.1 9 = nI f) (hb : ∀ j, j < w → ab (M.2.1 11 (5 * k + j)).toInt ≤ 50) (hr : ab (M.2.1 13 k).toInt ≤ 50) (ha : ∀ j, j < w → ab (M.2.2 2 (5 * f + j)).toInt ≤ 2 ^ 40) (hd : ab (M.2.2 3 f).toInt ≤ 2 ^ 40) :
    ∃ r, f_X3_holds N (nI k) M = some (r, M) ∧ (r = 0 ∨ r = 1) ∧ (r = 1 ↔ fitS (M.2.1 12 k) (exs w (fun k j => (M.2.1 11 (5 * k + j)).toInt) (fun k => (M.2.1 13 k).toInt) k (fun j => (M.2.2 2 (5 * f + j)).toInt) (M.2.2 3 f).toInt)) := by
  have b0 := ab_le.mp hr
  have en : (-M.2.1 13 k).toInt = -(M.2.1 13 k).toInt := Kit.i32_neg (by omega)
  have b1 := mulle (x := (M.2.1 13 k).toInt) hr hd
  have e1 : ((-M.2.1 13 k).toInt64 * M.2.2 3 f).toInt = -(M.2.1 13 k).toInt * (M.2.2 3 f).toInt := by
    rw [Kit.i64_mul (by rw [Kit.i64_of_i32, en, Int.neg_mul]; omega) (by rw [Kit.i64_of_i32, en, Int.neg_mul]; omega), Kit.i64_of_i32, en]
  have hl := hld_loop (N := N) hw5 hk hf130 hw hfd hb ha w 0 N ((-M.2.1 13 k).toInt64 * M.2.2 3 f) (by omega) (by omega) (by rw [e1, Int.neg_mul]; apply ab_le.mpr; omega)
  have bs := sm_le (f := fun j => (M.2.1 11 (5 * k + j)).toInt * (M.2.2 2 (5 * f + j)).toInt) (B := 50 * 2 ^ 40) (n := w) (fun i hi => ab_mul_le (hb i hi) (ha i hi))
  have bs' := ab_le.mp bs
  obtain ⟨X, hX⟩ : ∃ X, X = -(M.2.1 13 k).toInt * (M.2.2 3 f).toInt + sm (fun j => (M.2.1 11 (5 * k + j)).toInt * (M.2.2 2 (5 * f + j)).toInt) w := ⟨_, rfl⟩
  have hXb : -2 ^ 62 ≤ X ∧ X ≤ 2 ^ 62 := by rw [hX, Int.neg_mul]; omega
  have eX : (Int64.ofInt X).toInt = X := by rw [Int64.toInt_ofInt]; exact Kit.bmod64 (by omega) (by omega)
  have hexs : exs w (fun k j => (M.2.1 11 (5 * k + j)).toInt) (fun k => (M.2.1 13 k).toInt) k (fun j => (M.2.2 2 (5 * f + j)).toInt) (M.2.2 3 f).toInt = X := hX.symm
  rw [hexs]
  rw [e1] at hl
  rw [show -(M.2.1 13 k).toInt * (M.2.2 3 f).toInt + (sm (fun j => (M.2.1 11 (5 * k + j)).toInt * (M.2.2 2 (5 * f + j)).toInt) w - sm (fun j => (M.2.1 11 (5 * k + j)).toInt * (M.2.2 2 (5 * f + j)).toInt) 0) = X by
    show _ + (_ - 0) = X
    rw [hX]; omega] at hl
  have hf0 : f_X3_holds N (nI k) M = lpT (fun _ _ _ _ => none) (F_X3_holds_22 N) (N - w) (nI k) (Int64.ofInt X) (nI w) M := by
    rw [← hl]
    unfold f_X3_holds b_X3_holds_0
    rw [rA_i (by rw [lnA13]; omega), Option.bind_some, hfd, rL_i (by rw [lnL3]; omega), Option.bind_some]
    rfl
  obtain ⟨n, hn⟩ : ∃ n, N - w = n + 1 := ⟨N - w - 1, by omega⟩
  rw [hf0, hn, lp_s]
  generalize lpT (fun _ _ _ _ => none) (F_X3_holds_22 N) n = g
  unfold F_X3_holds_22
  rw [hw, if_pos (Int32.le_refl _), rA_i (by rw [lnA12]; omega), Option.bind_some, Option.bind_some]
  unfold fitS
  by_cases s0 : M.2.1 12 k = 0
  · rw [if_pos s0, if_pos s0]
    by_cases c : 0 < lg_cmp (Int64.ofInt X) 0
    · rw [if_pos c]
      have := cmp_gt.mp c
      rw [eX, l0] at this
      exact ⟨0, rfl, Or.inl rfl, ⟨fun h => absurd h (by decide), fun h => by omega⟩⟩
    · rw [if_neg c]
      have : ¬ (0 : Int64).toInt < (Int64.ofInt X).toInt := fun h => c (cmp_gt.mpr h)
      rw [eX, l0] at this
      exact ⟨1, rfl, Or.inr rfl, ⟨fun _ => by omega, fun _ => rfl⟩⟩
  · rw [if_neg s0, if_neg s0]
    by_cases s1 : M.2.1 12 k = 1
    · rw [if_pos s1, if_pos s1]
      by_cases c : lg_cmp (Int64.ofInt X) 0 = 0
      · rw [if_pos c]
        have := cmp_eq.mp c
        rw [eX, l0] at this
        exact ⟨1, rfl, Or.inr rfl, ⟨fun _ => this, fun _ => rfl⟩⟩
      · rw [if_neg c]
        have : ¬ (Int64.ofInt X).toInt = (0 : Int64).toInt := fun h => c (cmp_eq.mpr h)
        rw [eX, l0] at this
        exact ⟨0, rfl, Or.inl rfl, ⟨fun h => absurd h (by decide), fun h => absurd h this⟩⟩
    · rw [if_neg s1, if_neg s1]
      by_cases c : lg_cmp (Int64.ofInt X) 0 < 0
      · rw [if_pos c]
        have := cmp_lt.mp c
        rw [eX, l0] at this
        exact ⟨0, rfl, Or.inl rfl, ⟨fun h => absurd h (by decide), fun h => by omega⟩⟩
      · rw [if_neg c]
        have : ¬ (Int64.ofInt X).toInt < (0 : Int64).toInt := fun h => c (cmp_lt.mpr h)
        rw [eX, l0] at this
        exact ⟨1, rfl, Or.inr rfl, ⟨fun _ => by omega, fun _ => rfl⟩⟩
