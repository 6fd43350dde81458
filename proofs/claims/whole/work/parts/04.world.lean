/-! THE WORLD: every cell of the law's own (the class's, the reference's, 'out'), by number; its contents are three functions:
M.1 k: int field k; M.2.1 k j: place j of int array k; M.2.2 k j: place j of long array k -/
abbrev Mm : Type := (Nat → Int32) × (Nat → Nat → Int32) × (Nat → Nat → Int64)
/-- the least address, the classes of int[], long[] and long[][], the classes' numbers, the cells' addresses -/
abbrev Th : Type := Nat × (ClassId × ClassId × ClassId) × va_G × (Nat → Nat)
def lnA (k : Nat) : Nat := [3, 3, 3, 4, 4, 126, 12, 3, 4, 3, 3, 45, 9, 9, 130].getD k 0
def lnO (k : Nat) : Nat := [3, 3, 126].getD k 0
def bsO (k : Nat) : Nat := [6, 9, 12].getD k 0
def lnL (k : Nat) : Nat := if k < 6 then [4, 30, 650, 130, 130, 1].getD k 0 else if k < 9 then 6 else if k < 12 then 4 else if k < 138 then 6 else 0
abbrev tA (θ : Th) : Nat → Prop := fun q => θ.1 ≤ q
abbrev tad (θ : Th) (k : Nat) : Nat := θ.2.2.2 k
abbrev tys (θ : Th) : List (ClassId × FieldType) := [(θ.2.1.1, .int), (θ.2.1.2.1, .long), (θ.2.1.2.2, .array .long)]
def wlo (θ : Th) (I : Nat → Int32) : va_W :=
  [(tad θ 0, .inr (2, [.ref (tad θ 1), .ref (tad θ 2), .ref (tad θ 9)])),
   (tad θ 1, .inr (1, [.int (I 0), .int (I 1), .ref (tad θ 19), .ref (tad θ 4), .ref (tad θ 5), .ref (tad θ 6), .ref (tad θ 7)])),
   (tad θ 2, .inr (0, [.ref (tad θ 21), .int (I 2), .int (I 3), .ref (tad θ 20), .ref (tad θ 8), .ref (tad θ 22)])),
   (tad θ 3, .inr (3, [.int (I 4), .int (I 5), .ref (tad θ 10), .ref (tad θ 11), .ref (tad θ 12), .ref (tad θ 13), .ref (tad θ 14), .int (I 6), .int (I 7), .int (I 8), .ref (tad θ 15), .ref (tad θ 16), .ref (tad θ 17), .ref (tad θ 23), .int (I 9), .ref (tad θ 24), .ref (tad θ 25), .ref (tad θ 26), .int (I 10), .ref (tad θ 18)]))]
def wlA (θ : Th) (A : Nat → Nat → Int32) : va_W := (List.range 15).map (fun k => (tad θ (4 + k), .inl (θ.2.1.1, lnA k, .inl (A k))))
def wlO (θ : Th) : va_W := (List.range 3).map (fun k => (tad θ (19 + k), .inl (θ.2.1.2.2, lnO k, .inr (.inr (.inr (.inr (fun i => if i < lnO k then some (tad θ (22 + (bsO k + i))) else none)))))))
def wlL (θ : Th) (L : Nat → Nat → Int64) : va_W := (List.range 138).map (fun k => (tad θ (22 + k), .inl (θ.2.1.2.1, lnL k, .inr (.inl (L k)))))
def wl (θ : Th) (M : Mm) : va_W := wlo θ M.1 ++ (wlA θ M.2.1 ++ (wlO θ ++ wlL θ M.2.2))
theorem wlo_len (θ : Th) (I : Nat → Int32) : (wlo θ I).length = 4 := rfl
theorem wlA_len (θ : Th) (A : Nat → Nat → Int32) : (wlA θ A).length = 15 := by simp [wlA]
theorem wlO_len (θ : Th) : (wlO θ).length = 3 := by simp [wlO]
theorem wlL_len (θ : Th) (L : Nat → Nat → Int64) : (wlL θ L).length = 138 := by simp [wlL]
theorem wl_o {θ : Th} {M : Mm} {o : Nat} (h : o < 4) : (wl θ M)[o]? = (wlo θ M.1)[o]? := List.getElem?_append_left (by rw [wlo_len]; exact h)
theorem wl_A {θ : Th} {M : Mm} {k : Nat} (h : k < 15) : (wl θ M)[4 + k]? = some (tad θ (4 + k), .inl (θ.2.1.1, lnA k, .inl (M.2.1 k))) := by
  unfold wl
  rw [List.getElem?_append_right (by rw [wlo_len]; omega), wlo_len, List.getElem?_append_left (by rw [wlA_len]; omega), show 4 + k - 4 = k by omega]
  simp [wlA, h]
theorem wl_O {θ : Th} {M : Mm} {k : Nat} (h : k < 3) : (wl θ M)[19 + k]? = some (tad θ (19 + k), .inl (θ.2.1.2.2, lnO k, .inr (.inr (.inr (.inr (fun i => if i < lnO k then some (tad θ (22 + (bsO k + i))) else none)))))) := by
  unfold wl
  rw [List.getElem?_append_right (by rw [wlo_len]; omega), wlo_len, List.getElem?_append_right (by rw [wlA_len]; omega), wlA_len, List.getElem?_append_left (by rw [wlO_len]; omega), show 19 + k - 4 - 15 = k by omega]
  simp [wlO, h]
theorem wl_L {θ : Th} {M : Mm} {k : Nat} (h : k < 138) : (wl θ M)[22 + k]? = some (tad θ (22 + k), .inl (θ.2.1.2.1, lnL k, .inr (.inl (M.2.2 k)))) := by
  unfold wl
  rw [List.getElem?_append_right (by rw [wlo_len]; omega), wlo_len, List.getElem?_append_right (by rw [wlA_len]; omega), wlA_len, List.getElem?_append_right (by rw [wlO_len]; omega), wlO_len, show 22 + k - 4 - 15 - 3 = k by omega]
  simp [wlL, h]
theorem range_set {α : Type} {n k : Nat} (f : Nat → α) (x : α) (_h : k < n) : ((List.range n).map f).set k x = (List.range n).map (fun j => if j = k then x else f j) := by
  apply List.ext_getElem?
  intro i
  rw [List.getElem?_set]
  by_cases hi : k = i
  · subst hi
    simp [_h]
  · have hi2 : ¬ i = k := fun e => hi e.symm
    simp only [hi, if_false, List.getElem?_map]
    by_cases hn : i < n
    · simp [hn, hi2]
    · simp [hn]
theorem wl_setA {θ : Th} {M : Mm} {k : Nat} (h : k < 15) (f : Nat → Int32) : (wl θ M).set (4 + k) (tad θ (4 + k), .inl (θ.2.1.1, lnA k, .inl f)) = wl θ (M.1, va_up M.2.1 k f, M.2.2) := by
  unfold wl
  rw [List.set_append_right _ _ (by rw [wlo_len]; omega), wlo_len, List.set_append_left _ _ (by rw [wlA_len]; omega), show 4 + k - 4 = k by omega]
  congr 2
  unfold wlA
  rw [range_set _ _ h]
  apply List.map_congr_left
  intro j _
  by_cases e : j = k
  · subst e; simp [va_up]
  · simp [va_up, e]
theorem wl_setL {θ : Th} {M : Mm} {k : Nat} (h : k < 138) (f : Nat → Int64) : (wl θ M).set (22 + k) (tad θ (22 + k), .inl (θ.2.1.2.1, lnL k, .inr (.inl f))) = wl θ (M.1, M.2.1, va_up M.2.2 k f) := by
  unfold wl
  rw [List.set_append_right _ _ (by rw [wlo_len]; omega), wlo_len, List.set_append_right _ _ (by rw [wlA_len]; omega), wlA_len, List.set_append_right _ _ (by rw [wlO_len]; omega), wlO_len, show 22 + k - 4 - 15 - 3 = k by omega]
  congr 3
  unfold wlL
  rw [range_set _ _ h]
  apply List.map_congr_left
  intro j _
  by_cases e : j = k
  · subst e; simp [va_up]
  · simp [va_up, e]
theorem wl_setI {θ : Th} {M : Mm} {o : Nat} (h : o < 4) (q : Nat × va_E) {I' : Nat → Int32} (he : (wlo θ M.1).set o q = wlo θ I') : (wl θ M).set o q = wl θ (I', M.2.1, M.2.2) := by
  unfold wl
  rw [List.set_append_left _ _ (by rw [wlo_len]; exact h), he]
def wd (θ : Th) (M : Mm) (H : Heap) : Prop := va_P θ.2.2.1 vwCl (wl θ M) H ∧ va_D (tA θ) (wl θ M)
def wU (θ : Th) (M : Mm) (U : State) : Prop := va_K θ.2.2.1 vwCl (tys θ) U ∧ wd θ M U.heap
/-! reads and writes: none outside the range -/
def rA (M : Mm) (k : Nat) (i : Int32) : Option Int32 := if i < 0 ∨ lnA k ≤ i.toNatClampNeg then none else some (M.2.1 k i.toNatClampNeg)
def wA (M : Mm) (k : Nat) (i x : Int32) : Option Mm := if i < 0 ∨ lnA k ≤ i.toNatClampNeg then none else some (M.1, va_up M.2.1 k (upd (M.2.1 k) i.toNatClampNeg x), M.2.2)
def rL (M : Mm) (k : Nat) (i : Int32) : Option Int64 := if i < 0 ∨ lnL k ≤ i.toNatClampNeg then none else some (M.2.2 k i.toNatClampNeg)
def wL (M : Mm) (k : Nat) (i : Int32) (x : Int64) : Option Mm := if i < 0 ∨ lnL k ≤ i.toNatClampNeg then none else some (M.1, M.2.1, va_up M.2.2 k (vp_updL (M.2.2 k) i.toNatClampNeg x))
def rO (k : Nat) (i : Int32) : Option Nat := if i < 0 ∨ lnO k ≤ i.toNatClampNeg then none else some (bsO k + i.toNatClampNeg)
abbrev wI (M : Mm) (k : Nat) (v : Int32) : Mm := (upd M.1 k v, M.2.1, M.2.2)
theorem ite_some {α : Type} {c : Prop} [Decidable c] {x y : α} (h : (if c then none else some x) = some y) : ¬ c ∧ x = y := by
  by_cases hc : c
  · rw [if_pos hc] at h; cases h
  · rw [if_neg hc] at h; exact ⟨hc, Option.some.inj h⟩
theorem bind_s {α β : Type} {x : Option α} {f : α → Option β} {y : β} (h : x.bind f = some y) : ∃ a, x = some a ∧ f a = some y := Option.bind_eq_some_iff.mp h
theorem lnL_lt {k n : Nat} (h : ¬ lnL k ≤ n) : k < 138 := by
  unfold lnL at h
  by_cases h1 : k < 138
  · exact h1
  · rw [if_neg (by omega), if_neg (by omega), if_neg (by omega), if_neg h1] at h
    omega
