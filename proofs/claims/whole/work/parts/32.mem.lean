/-! READS AND WRITES at places given as natural numbers -/
theorem lnA_le (k : Nat) : lnA k ≤ 130 := by
  by_cases h : k < 15
  · exact (by decide : ∀ k, k < 15 → lnA k ≤ 130) k h
  · unfold lnA
    rw [List.getD_eq_getElem?_getD, List.getElem?_eq_none (by show 15 ≤ k; omega)]
    decide
theorem lnL_le (k : Nat) : lnL k ≤ 650 := by
  unfold lnL
  by_cases h : k < 6
  · rw [if_pos h]
    exact (by decide : ∀ k, k < 6 → [4, 30, 650, 130, 130, 1].getD k 0 ≤ 650) k h
  · rw [if_neg h]
    split
    · omega
    · split
      · omega
      · split <;> omega
theorem lnO_le (k : Nat) : lnO k ≤ 126 := by
  by_cases h : k < 3
  · exact (by decide : ∀ k, k < 3 → lnO k ≤ 126) k h
  · unfold lnO
    rw [List.getD_eq_getElem?_getD, List.getElem?_eq_none (by show 3 ≤ k; omega)]
    decide
def sA (M : Mm) (k i : Nat) (x : Int32) : Mm := (M.1, va_up M.2.1 k (upd (M.2.1 k) i x), M.2.2)
def sL (M : Mm) (k i : Nat) (x : Int64) : Mm := (M.1, M.2.1, va_up M.2.2 k (vp_updL (M.2.2 k) i x))
theorem rA_i {M : Mm} {k i : Nat} (h : i < lnA k) : rA M k (nI i) = some (M.2.1 k i) := by
  have := lnA_le k
  unfold rA
  rw [if_neg (nI_in h (by omega)), nI_clamp (by omega)]
theorem wA_i {M : Mm} {k i : Nat} (h : i < lnA k) (x : Int32) : wA M k (nI i) x = some (sA M k i x) := by
  have := lnA_le k
  unfold wA
  rw [if_neg (nI_in h (by omega)), nI_clamp (by omega)]
  rfl
theorem rL_i {M : Mm} {k i : Nat} (h : i < lnL k) : rL M k (nI i) = some (M.2.2 k i) := by
  have := lnL_le k
  unfold rL
  rw [if_neg (nI_in h (by omega)), nI_clamp (by omega)]
theorem wL_i {M : Mm} {k i : Nat} (h : i < lnL k) (x : Int64) : wL M k (nI i) x = some (sL M k i x) := by
  have := lnL_le k
  unfold wL
  rw [if_neg (nI_in h (by omega)), nI_clamp (by omega)]
  rfl
theorem rO_i {k i : Nat} (h : i < lnO k) : rO k (nI i) = some (bsO k + i) := by
  have := lnO_le k
  unfold rO
  rw [if_neg (nI_in h (by omega)), nI_clamp (by omega)]
theorem sA_at {M : Mm} {k i : Nat} {x : Int32} (k' i' : Nat) : (sA M k i x).2.1 k' i' = if k' = k ∧ i' = i then x else M.2.1 k' i' := by
  show va_up M.2.1 k (upd (M.2.1 k) i x) k' i' = _
  unfold va_up upd
  by_cases h : k' = k
  · subst h; simp
  · simp [h]
theorem sL_at {M : Mm} {k i : Nat} {x : Int64} (k' i' : Nat) : (sL M k i x).2.2 k' i' = if k' = k ∧ i' = i then x else M.2.2 k' i' := by
  show va_up M.2.2 k (vp_updL (M.2.2 k) i x) k' i' = _
  unfold va_up vp_updL
  by_cases h : k' = k
  · subst h; simp
  · simp [h]
theorem sL_ne {M : Mm} {k i : Nat} {x : Int64} {k' : Nat} (h : k' ≠ k) : (sL M k i x).2.2 k' = M.2.2 k' := by
  show va_up M.2.2 k _ k' = _
  exact va_up_ne _ _ h
theorem sA_ne {M : Mm} {k i : Nat} {x : Int32} {k' : Nat} (h : k' ≠ k) : (sA M k i x).2.1 k' = M.2.1 k' := by
  show va_up M.2.1 k _ k' = _
  exact va_up_ne _ _ h
theorem ix4 (a b : Nat) : 4 * nI a + nI b = nI (4 * a + b) := by rw [show (4 : Int32) = nI 4 from rfl, pk_mul, nI_add]
theorem ix5 (a b : Nat) : 5 * nI a + nI b = nI (5 * a + b) := by rw [show (5 : Int32) = nI 5 from rfl, pk_mul, nI_add]
theorem ix6 (a b : Nat) : 6 * nI a + nI b = nI (6 * a + b) := by rw [show (6 : Int32) = nI 6 from rfl, pk_mul, nI_add]
theorem ix7 (a : Nat) : 7 * nI a = nI (7 * a) := by rw [show (7 : Int32) = nI 7 from rfl, pk_mul]
theorem ix5s (a b : Nat) : 5 * nI (a + 1) - 5 + nI b = nI (5 * a + b) := by
  rw [show (5 : Int32) = nI 5 from rfl, pk_mul, pk_sub (by omega), nI_add]
  congr 1
theorem ix2 (a : Nat) : 2 + nI a = nI (2 + a) := by rw [show (2 : Int32) = nI 2 from rfl, nI_add]
theorem lp_s {T : Type} {bot : T} {F : T → T} (n : Nat) : lpT bot F (n + 1) = F (lpT bot F n) := rfl
theorem fuel_s {f d : Nat} (h : d < f) : ∃ n, f = n + 1 ∧ d ≤ n := ⟨f - 1, by omega, by omega⟩
/-- a comparison of longs, as the numbers compare -/
theorem cmp_eq {x y : Int64} : lg_cmp x y = 0 ↔ x.toInt = y.toInt := by
  rw [lg_cmp_eq]
  exact ⟨fun h => by rw [h], fun h => Int64.toInt_inj.mp h⟩
theorem cmp_lt {x y : Int64} : lg_cmp x y < 0 ↔ x.toInt < y.toInt := by
  rw [lg_cmp_lt]; exact Int64.lt_iff_toInt_lt
theorem cmp_le {x y : Int64} : lg_cmp x y ≤ 0 ↔ x.toInt ≤ y.toInt := by
  rw [lg_cmp_le]; exact Int64.le_iff_toInt_le
theorem cmp_gt {x y : Int64} : 0 < lg_cmp x y ↔ y.toInt < x.toInt := by
  rw [lg_cmp_gt]; exact Int64.lt_iff_toInt_lt
theorem cmp_ge {x y : Int64} : 0 ≤ lg_cmp x y ↔ y.toInt ≤ x.toInt := by
  rw [lg_cmp_ge]; exact Int64.le_iff_toInt_le
theorem l0 : (0 : Int64).toInt = 0 := by decide
theorem l1 : (1 : Int64).toInt = 1 := by decide
theorem lm1 : (-1 : Int64).toInt = -1 := by decide
