/-! THE CLASS: its sheet -/
def exc (M : Mm) (i κ : Nat) : Int := sm (fun c => (M.2.2 (6 + i) c).toInt * (M.2.2 κ c).toInt) 6
def wth (M : Mm) (n κ : Nat) : Int := sm (fun j => (M.2.1 3 j).toInt * (M.2.2 κ (2 + j)).toInt) n
theorem lnE : ∀ i, i < 3 → lnL (6 + i) = 6 := by decide
theorem lnR {κ : Nat} (h1 : 12 ≤ κ) (h2 : κ < 138) : lnL κ = 6 := by
  unfold lnL
  rw [if_neg (by omega), if_neg (by omega), if_neg (by omega), if_pos h2]
theorem lnA0 : lnA 0 = 3 := by decide
theorem lnA3 : lnA 3 = 4 := by decide
theorem lnO0 : lnO 0 = 3 := by decide
theorem lnO2 : lnO 2 = 126 := by decide
theorem rO0 {i : Nat} (h : i < 3) : rO 0 (nI i) = some (6 + i) := rO_i (k := 0) (by rw [lnO0]; exact h)
theorem rO2 {i : Nat} (h : i < 126) : rO 2 (nI i) = some (12 + i) := rO_i (k := 2) (by rw [lnO2]; exact h)
theorem colm {N n : Nat} {M : Mm} (h : M.1 0 = nI n) : f_X1_columns N M = some (nI (2 + n), M) := by
  unfold f_X1_columns b_X1_columns_0
  rw [h, ix2]
theorem allr {N m : Nat} {M : Mm} (hm : m ≤ 3) (h : M.1 1 = nI m) : f_X1_allRows N M = some (nI (2 ^ m - 1), M) := by
  unfold f_X1_allRows b_X1_allRows_0
  rw [h]
  exact congrArg (fun x => some (x, M)) ((by decide : ∀ m, m ≤ 3 → (1 : Int32) <<< (nI m &&& 31) - 1 = nI (2 ^ m - 1)) m hm)
theorem entr {N i c : Nat} {M : Mm} (hi : i < 3) (hc : c < 6) : f_X1_entry N (nI i) (nI c) M = some (M.2.2 (6 + i) c, M) := by
  unfold f_X1_entry b_X1_entry_0
  rw [rO0 hi, Option.bind_some, rL_i (by rw [lnE i hi]; exact hc), Option.bind_some]
set_option maxHeartbeats 1000000 in
theorem exc_loop {N i κ : Nat} (hi : i < 3) (hκ : lnL κ = 6) {M : Mm} (hE : ∀ c, c < 6 → ab (M.2.2 (6 + i) c).toInt ≤ 59) (hR : ∀ c, c < 6 → ab (M.2.2 κ c).toInt ≤ 2 ^ 21) :
    ∀ (d c fuel : Nat) (x : Int64), c + d = 6 → d < fuel → x.toInt = sm (fun c => (M.2.2 (6 + i) c).toInt * (M.2.2 κ c).toInt) c → ∃ y : Int64, lpT (fun _ _ _ _ _ => none) (F_X1_excess_5 N) fuel (nI i) κ x (nI c) M = some (y, M) ∧ y.toInt = exc M i κ := by
  intro d
  induction d with
  | zero =>
    intro c fuel x hc hf hx
    obtain ⟨g, rfl, -⟩ := fuel_s hf
    have hc6 : c = 6 := by omega
    subst hc6
    refine ⟨x, ?_, hx⟩
    rw [lp_s]
    unfold F_X1_excess_5
    rw [if_pos (by decide)]
  | succ d ih =>
    intro c fuel x hc hf hx
    obtain ⟨g, rfl, hg⟩ := fuel_s hf
    have b := mulle (hE c (by omega)) (hR c (by omega))
    have bx := ab_le.mp (sm_le (f := fun c => (M.2.2 (6 + i) c).toInt * (M.2.2 κ c).toInt) (B := 59 * 2 ^ 21) (n := c) (fun j hj => ab_mul_le (hE j (by omega)) (hR j (by omega))))
    rw [← hx] at bx
    have hc6 : (c : Int) ≤ 6 := by omega
    have bx2 : -(6 * (59 * 2 ^ 21)) ≤ x.toInt ∧ x.toInt ≤ 6 * (59 * 2 ^ 21) := by
      constructor <;> omega
    have e1 : (M.2.2 (6 + i) c * M.2.2 κ c).toInt = (M.2.2 (6 + i) c).toInt * (M.2.2 κ c).toInt := Kit.i64_mul (by omega) (by omega)
    have e2 : (x + M.2.2 (6 + i) c * M.2.2 κ c).toInt = x.toInt + (M.2.2 (6 + i) c).toInt * (M.2.2 κ c).toInt := by
      rw [Kit.i64_add (by rw [e1]; omega) (by rw [e1]; omega), e1]
    obtain ⟨y, h1, h2⟩ := ih (c + 1) g (x + M.2.2 (6 + i) c * M.2.2 κ c) (by omega) (by omega) (by rw [e2, hx]; rfl)
    refine ⟨y, ?_, h2⟩
    rw [← h1, lp_s]
    generalize lpT (fun _ _ _ _ _ => none) (F_X1_excess_5 N) g = q
    unfold F_X1_excess_5
    rw [if_neg (fun h => by have := (nI_leI (a := 6) (by omega) (by omega)).mp h; omega), rO0 hi, Option.bind_some, rL_i (by rw [lnE i hi]; omega), Option.bind_some, rL_i (by rw [hκ]; omega), Option.bind_some, nI_1]
theorem exc_s {N i κ : Nat} (hN : 10 ≤ N) (hi : i < 3) (hκ : lnL κ = 6) {M : Mm} (hE : ∀ c, c < 6 → ab (M.2.2 (6 + i) c).toInt ≤ 59) (hR : ∀ c, c < 6 → ab (M.2.2 κ c).toInt ≤ 2 ^ 21) : ∃ y : Int64, f_X1_excess N (nI i) κ M = some (y, M) ∧ y.toInt = exc M i κ :=
  exc_loop (N := N) hi hκ hE hR 6 0 N 0 (by omega) (by omega) l0
set_option maxHeartbeats 1000000 in
theorem wth_loop {N n κ : Nat} (hn : n ≤ 4) (hκ : lnL κ = 6) {M : Mm} (h0 : M.1 0 = nI n) (hE : ∀ j, j < n → ab (M.2.1 3 j).toInt ≤ 9) (hR : ∀ c, c < 6 → ab (M.2.2 κ c).toInt ≤ 2 ^ 21) :
    ∀ (d j fuel : Nat) (x : Int64), j + d = n → d < fuel → x.toInt = wth M j κ → ∃ y : Int64, lpT (fun _ _ _ _ => none) (F_X1_worth_5 N) fuel κ x (nI j) M = some (y, M) ∧ y.toInt = wth M n κ := by
  intro d
  induction d with
  | zero =>
    intro j fuel x hj hf hx
    obtain ⟨g, rfl, -⟩ := fuel_s hf
    have hjn : j = n := by omega
    subst hjn
    refine ⟨x, ?_, hx⟩
    rw [lp_s]
    unfold F_X1_worth_5
    rw [h0, if_pos (Int32.le_refl _)]
  | succ d ih =>
    intro j fuel x hj hf hx
    obtain ⟨g, rfl, hg⟩ := fuel_s hf
    have b := mulle (hE j (by omega)) (hR (2 + j) (by omega))
    have bx := ab_le.mp (sm_le (f := fun j => (M.2.1 3 j).toInt * (M.2.2 κ (2 + j)).toInt) (B := 9 * 2 ^ 21) (n := j) (fun j hj => ab_mul_le (hE j (by omega)) (hR (2 + j) (by omega))))
    rw [show sm (fun j => (M.2.1 3 j).toInt * (M.2.2 κ (2 + j)).toInt) j = x.toInt from hx.symm] at bx
    have hj4 : (j : Int) ≤ 4 := by omega
    have bx2 : -(4 * (9 * 2 ^ 21)) ≤ x.toInt ∧ x.toInt ≤ 4 * (9 * 2 ^ 21) := by
      constructor <;> omega
    have e1 : ((M.2.1 3 j).toInt64 * M.2.2 κ (2 + j)).toInt = (M.2.1 3 j).toInt * (M.2.2 κ (2 + j)).toInt := by
      rw [Kit.i64_mul (by rw [Kit.i64_of_i32]; omega) (by rw [Kit.i64_of_i32]; omega), Kit.i64_of_i32]
    have e2 : (x + (M.2.1 3 j).toInt64 * M.2.2 κ (2 + j)).toInt = x.toInt + (M.2.1 3 j).toInt * (M.2.2 κ (2 + j)).toInt := by
      rw [Kit.i64_add (by rw [e1]; omega) (by rw [e1]; omega), e1]
    obtain ⟨y, h1, h2⟩ := ih (j + 1) g (x + (M.2.1 3 j).toInt64 * M.2.2 κ (2 + j)) (by omega) (by omega) (by rw [e2, hx]; rfl)
    refine ⟨y, ?_, h2⟩
    rw [← h1, lp_s]
    generalize lpT (fun _ _ _ _ => none) (F_X1_worth_5 N) g = q
    unfold F_X1_worth_5
    rw [h0, if_neg (fun h => by have := (nI_leI (by omega) (by omega)).mp h; omega), rA_i (by rw [lnA3]; omega), Option.bind_some, ix2, rL_i (by rw [hκ]; omega), Option.bind_some, nI_1]
theorem wth_s {N n κ : Nat} (hN : 10 ≤ N) (hn : n ≤ 4) (hκ : lnL κ = 6) {M : Mm} (h0 : M.1 0 = nI n) (hE : ∀ j, j < n → ab (M.2.1 3 j).toInt ≤ 9) (hR : ∀ c, c < 6 → ab (M.2.2 κ c).toInt ≤ 2 ^ 21) : ∃ y : Int64, f_X1_worth N κ M = some (y, M) ∧ y.toInt = wth M n κ :=
  wth_loop (N := N) hn hκ h0 hE hR n 0 N 0 (by omega) (by omega) l0
theorem fit_s {N : Nat} (x : Int64) (s : Int32) (M : Mm) : ∃ r, f_X1_fits N x s M = some (r, M) ∧ (r = 0 ∨ r = 1) ∧ (r = 1 ↔ fitS s x.toInt) := by
  unfold f_X1_fits b_X1_fits_0 fitS
  by_cases s0 : s = 0
  · rw [if_pos s0, if_pos s0]
    by_cases c : 0 < lg_cmp x 0
    · rw [if_pos c]
      have := cmp_gt.mp c
      rw [l0] at this
      exact ⟨0, rfl, Or.inl rfl, ⟨fun h => absurd h (by decide), fun h => by omega⟩⟩
    · rw [if_neg c]
      have : ¬ (0 : Int64).toInt < x.toInt := fun h => c (cmp_gt.mpr h)
      rw [l0] at this
      exact ⟨1, rfl, Or.inr rfl, ⟨fun _ => by omega, fun _ => rfl⟩⟩
  · rw [if_neg s0, if_neg s0]
    by_cases s1 : s = 1
    · rw [if_pos s1, if_pos s1]
      by_cases c : lg_cmp x 0 = 0
      · rw [if_pos c]
        have := cmp_eq.mp c
        rw [l0] at this
        exact ⟨1, rfl, Or.inr rfl, ⟨fun _ => this, fun _ => rfl⟩⟩
      · rw [if_neg c]
        have : ¬ x.toInt = (0 : Int64).toInt := fun h => c (cmp_eq.mpr h)
        rw [l0] at this
        exact ⟨0, rfl, Or.inl rfl, ⟨fun h => absurd h (by decide), fun h => absurd h this⟩⟩
    · rw [if_neg s1, if_neg s1]
      by_cases c : lg_cmp x 0 < 0
      · rw [if_pos c]
        have := cmp_lt.mp c
        rw [l0] at this
        exact ⟨0, rfl, Or.inl rfl, ⟨fun h => absurd h (by decide), fun h => by omega⟩⟩
      · rw [if_neg c]
        have : ¬ x.toInt < (0 : Int64).toInt := fun h => c (cmp_lt.mpr h)
        rw [l0] at this
        exact ⟨1, rfl, Or.inr rfl, ⟨fun _ => by omega, fun _ => rfl⟩⟩
set_option maxHeartbeats 1000000 in
theorem hds_loop {N m κ mask : Nat} (hN : 10 ≤ N) (hm : m ≤ 3) (hκ : lnL κ = 6) (hmk : mask < 2 ^ 31) {M : Mm} (h1 : M.1 1 = nI m) (hE : ∀ i, i < 3 → ∀ c, c < 6 → ab (M.2.2 (6 + i) c).toInt ≤ 59) (hR : ∀ c, c < 6 → ab (M.2.2 κ c).toInt ≤ 2 ^ 21) :
    ∀ (d i fuel : Nat), i + d = m → d < fuel → ∃ r, lpT (fun _ _ _ _ => none) (F_X1_holds_2 N) fuel κ (nI mask) (nI i) M = some (r, M) ∧ (r = 0 ∨ r = 1) ∧ (r = 1 ↔ ∀ i', i ≤ i' → i' < m → bt mask i' → fitS (M.2.1 0 i') (exc M i' κ)) := by
  intro d
  induction d with
  | zero =>
    intro i fuel hi hf
    obtain ⟨g, rfl, -⟩ := fuel_s hf
    have him : i = m := by omega
    subst him
    refine ⟨1, ?_, Or.inr rfl, ⟨fun _ i' a b => by omega, fun _ => rfl⟩⟩
    rw [lp_s]
    unfold F_X1_holds_2
    rw [h1, if_pos (Int32.le_refl _)]
  | succ d ih =>
    intro i fuel hi hf
    obtain ⟨g, rfl, hg⟩ := fuel_s hf
    obtain ⟨r, i1, i2, i3⟩ := ih (i + 1) g (by omega) (by omega)
    obtain ⟨y, e1, e2⟩ := exc_s (N := N) hN (show i < 3 by omega) hκ (hE i (by omega)) hR
    obtain ⟨s, f1, f2, f3⟩ := fit_s (N := N) y (M.2.1 0 i) M
    have hstep : lpT (fun _ _ _ _ => none) (F_X1_holds_2 N) (g + 1) κ (nI mask) (nI i) M = if ((nI mask >>> (nI i &&& 31)) &&& 1) = 1 then (if s = 0 then some (0, M) else some (r, M)) else some (r, M) := by
      rw [← i1, lp_s]
      generalize lpT (fun _ _ _ _ => none) (F_X1_holds_2 N) g = q
      unfold F_X1_holds_2
      rw [h1, if_neg (fun h => by have := (nI_leI (by omega) (by omega)).mp h; omega), e1, Option.bind_some]
      dsimp only
      rw [rA_i (by rw [lnA0]; omega), Option.bind_some, f1, Option.bind_some]
      dsimp only
      rw [nI_1]
    rw [hstep]
    by_cases hb : bt mask i
    · rw [if_pos ((bitq hmk (by omega)).mpr hb)]
      by_cases hs : s = 0
      · rw [if_pos hs]
        refine ⟨0, rfl, Or.inl rfl, ⟨fun h => absurd h (by decide), fun h => ?_⟩⟩
        have := f3.mpr (by rw [e2]; exact h i (Nat.le_refl _) (by omega) hb)
        rw [this] at hs
        exact absurd hs (by decide)
      · rw [if_neg hs]
        have hs1 := f3.mp (f2.resolve_left hs)
        rw [e2] at hs1
        refine ⟨r, rfl, i2, i3.trans ⟨fun h i' a b c => ?_, fun h i' a b c => h i' (by omega) b c⟩⟩
        by_cases e : i' = i
        · rw [e]; exact hs1
        · exact h i' (by omega) b c
    · rw [if_neg (fun h => hb ((bitq hmk (by omega)).mp h))]
      refine ⟨r, rfl, i2, i3.trans ⟨fun h i' a b c => h i' (by
        have : i' ≠ i := fun e => hb (e ▸ c)
        omega) b c, fun h i' a b c => h i' (by omega) b c⟩⟩
theorem hds {N m κ mask : Nat} (hN : 10 ≤ N) (hm : m ≤ 3) (hκ : lnL κ = 6) (hmk : mask < 2 ^ 31) {M : Mm} (h1 : M.1 1 = nI m) (hE : ∀ i, i < 3 → ∀ c, c < 6 → ab (M.2.2 (6 + i) c).toInt ≤ 59) (hR : ∀ c, c < 6 → ab (M.2.2 κ c).toInt ≤ 2 ^ 21) : ∃ r, f_X1_holds N κ (nI mask) M = some (r, M) ∧ (r = 0 ∨ r = 1) ∧ (r = 1 ↔ ∀ i, i < m → bt mask i → fitS (M.2.1 0 i) (exc M i κ)) := by
  obtain ⟨r, a, b, c⟩ := hds_loop (N := N) hN hm hκ hmk h1 hE hR m 0 N (by omega) (by omega)
  exact ⟨r, a, b, c.trans ⟨fun h i hi hb => h i (Nat.zero_le _) hi hb, fun h i _ hi hb => h i hi hb⟩⟩
