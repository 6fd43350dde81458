/-! ONE STEP OF THE FRACTION-FREE ELIMINATION -/
theorem ra_len : ∀ k : Nat, (ra k).length = k
  | 0 => rfl
  | k + 1 => by
    show (ra k ++ [k]).length = k + 1
    rw [List.length_append, ra_len k]; rfl
theorem Dk_succ {M : Nat → Nat → Int} {k : Nat} : bdr M k k k = Dk M (k + 1) := rfl
theorem rep_last {M : Nat → Nat → Int} {k c : Nat} : rep M (k + 1) k c = bdr M k k c := by
  show dt M (k :: rv k) ((ra k ++ [k]).set k c) = dt M (k :: rv k) (ra k ++ [c])
  rw [List.set_append_right _ _ (by rw [ra_len]; exact Nat.le_refl _), ra_len, Nat.sub_self]
  rfl
theorem ba_2 {M : Nat → Nat → Int} {k r : Nat} (hk : k ≤ 4) (hr : r < k) (hD : Dk M (k + 1) ≠ 0) (c : Nat) : Dk M (k + 1) * rep M k r c - rep M k r k * bdr M k k c = Dk M k * rep M (k + 1) r c := by
  have key : ∀ i, i < k + 1 → sm (fun j => M i j * ((if j < k then Dk M (k + 1) * rep M k j c - rep M k j k * bdr M k k c else Dk M k * bdr M k k c) - Dk M k * rep M (k + 1) j c)) (k + 1) = 0 := by
    intro i hi
    have e0 : sm (fun j => M i j * ((if j < k then Dk M (k + 1) * rep M k j c - rep M k j k * bdr M k k c else Dk M k * bdr M k k c) - Dk M k * rep M (k + 1) j c)) k
        = Dk M (k + 1) * sm (fun j => M i j * rep M k j c) k - bdr M k k c * sm (fun j => M i j * rep M k j k) k - Dk M k * sm (fun j => M i j * rep M (k + 1) j c) k := by
      rw [← sm_mul, ← sm_mul, ← sm_mul, ← sm_sub, ← sm_sub]
      apply sm_congr
      intro j hj
      rw [if_pos hj]
      grind
    have e1 : sm (fun j => M i j * rep M (k + 1) j c) k + M i k * rep M (k + 1) k c = Dk M (k + 1) * M i c := c1_all (k := k + 1) (by omega) hi c
    show sm _ k + M i k * ((if k < k then _ else _) - _) = 0
    rw [e0, if_neg (Nat.lt_irrefl k)]
    rw [rep_last] at e1 ⊢
    by_cases h : i < k
    · have e2 := c1_all (M := M) (k := k) (by omega) h c
      have e3 := c1_all (M := M) (k := k) (by omega) h k
      rw [e2, e3]
      grind
    · have hik : i = k := by omega
      subst hik
      have e2 := c2_all (M := M) (k := i) hk i c
      have e3 := c2_all (M := M) (k := i) hk i i
      rw [Dk_succ] at e3
      grind
  have := c3_all (M := M) (k := k + 1) (r := r) (by omega) (by omega) hD key
  rw [if_pos hr] at this
  omega
theorem ba_1 {M : Nat → Nat → Int} {k : Nat} (hk : k ≤ 3) (hD : Dk M (k + 1) ≠ 0) (r c : Nat) : Dk M (k + 1) * bdr M k r c - bdr M k r k * bdr M k k c = Dk M k * bdr M (k + 1) r c := by
  have e1 := c2_all (M := M) (k := k) (by omega) r c
  have e2 := c2_all (M := M) (k := k) (by omega) r k
  have e3 : bdr M (k + 1) r c = Dk M (k + 1) * M r c - (sm (fun i => M r i * rep M (k + 1) i c) k + M r k * rep M (k + 1) k c) := c2_all (M := M) (k := k + 1) (by omega) r c
  have e4 : Dk M k * sm (fun i => M r i * rep M (k + 1) i c) k = Dk M (k + 1) * sm (fun i => M r i * rep M k i c) k - bdr M k k c * sm (fun i => M r i * rep M k i k) k := by
    rw [← sm_mul, ← sm_mul, ← sm_mul, ← sm_sub]
    apply sm_congr
    intro i hi
    have := ba_2 (M := M) (k := k) (by omega) hi hD c
    grind
  rw [rep_last] at e3
  grind
/-- a determinant speaks of its rows alone -/
theorem lap_congr {M M' : Nat → Nat → Int} {F F' : List Nat → Int} {r r' : Nat} (hr : ∀ c, M r c = M' r' c) (hF : ∀ l, F l = F' l) : ∀ (cs : List Nat) (s : Int) (pre : List Nat), lap M F r s pre cs = lap M' F' r' s pre cs
  | [], _, _ => rfl
  | c :: cs, s, pre => by
    show s * M r c * F (pre ++ cs) + lap M F r (-s) (pre ++ [c]) cs = s * M' r' c * F' (pre ++ cs) + lap M' F' r' (-s) (pre ++ [c]) cs
    rw [hr, hF, lap_congr hr hF cs]
theorem dt_congr {M M' : Nat → Nat → Int} : ∀ (rs : List Nat) (cs : List Nat), (∀ r ∈ rs, ∀ c, M r c = M' r c) → dt M rs cs = dt M' rs cs
  | [], _, _ => rfl
  | r :: rs, cs, h => lap_congr (h r List.mem_cons_self) (fun l => dt_congr rs l (fun r' hr' => h r' (List.mem_cons_of_mem _ hr'))) cs _ _
theorem rv_lt : ∀ {k r : Nat}, r ∈ rv k → r < k
  | 0, _, h => by cases h
  | k + 1, r, h => by
    rcases List.mem_cons.mp h with h | h
    · omega
    · have := rv_lt h; omega
theorem bdr_congr {M M' : Nat → Nat → Int} {k r r' c : Nat} (h : ∀ i, i < k → ∀ c, M i c = M' i c) (hr : ∀ c, M r c = M' r' c) : bdr M k r c = bdr M' k r' c :=
  lap_congr hr (fun l => dt_congr (rv k) l (fun r' hr' => h r' (rv_lt hr'))) _ _ _
theorem rep_congr {M M' : Nat → Nat → Int} {k r c : Nat} (h : ∀ i, i < k → ∀ c, M i c = M' i c) : rep M k r c = rep M' k r c := dt_congr (rv k) _ (fun r' hr' => h r' (rv_lt hr'))
theorem Dk_congr {M M' : Nat → Nat → Int} {k : Nat} (h : ∀ i, i < k → ∀ c, M i c = M' i c) : Dk M k = Dk M' k := dt_congr (rv k) _ (fun r' hr' => h r' (rv_lt hr'))
/-! bounds: a determinant is no greater than the product of its rows' sums -/
def ab (x : Int) : Int := if x < 0 then -x else x
theorem ab_nn (x : Int) : 0 ≤ ab x := by unfold ab; split <;> omega
theorem ab_le {x B : Int} : ab x ≤ B ↔ -B ≤ x ∧ x ≤ B := by unfold ab; split <;> omega
theorem ab_mul (x y : Int) : ab (x * y) = ab x * ab y := by
  unfold ab
  rcases Int.lt_trichotomy x 0 with hx | hx | hx <;> rcases Int.lt_trichotomy y 0 with hy | hy | hy
  · have := Int.mul_pos_of_neg_of_neg hx hy; rw [if_neg (by omega), if_pos hx, if_pos hy, Int.neg_mul_neg]
  · subst hy; simp
  · have := Int.mul_neg_of_neg_of_pos hx hy; rw [if_pos this, if_pos hx, if_neg (by omega), Int.neg_mul]
  · subst hx; simp
  · subst hx; simp
  · subst hx; simp
  · have := Int.mul_neg_of_pos_of_neg hx hy; rw [if_pos this, if_neg (by omega), if_pos hy, Int.mul_neg]
  · subst hy; simp
  · have := Int.mul_pos hx hy; rw [if_neg (by omega), if_neg (by omega), if_neg (by omega)]
theorem ab_add (x y : Int) : ab (x + y) ≤ ab x + ab y := by unfold ab; split <;> split <;> split <;> omega
theorem ab_neg (x : Int) : ab (-x) = ab x := by unfold ab; split <;> split <;> omega
theorem ab_mul_le {x y B C : Int} (hx : ab x ≤ B) (hy : ab y ≤ C) : ab (x * y) ≤ B * C := by
  rw [ab_mul]
  exact Int.mul_le_mul hx hy (ab_nn _) (Int.le_trans (ab_nn _) hx)
/-- as ROWS: a bound b r for the sum of row r over any columns of cs -/
theorem dt_le {M : Nat → Nat → Int} (b : Nat → Int) (hb : ∀ r, 0 ≤ b r) : ∀ (rs : List Nat) (P : List Nat → Prop), (∀ l c l', P (l ++ c :: l') → P (l ++ l')) → (∀ r ∈ rs, ∀ cs, P cs → (cs.map fun c => ab (M r c)).sum ≤ b r) → ∀ cs, P cs → ab (dt M rs cs) ≤ (rs.map b).foldr (· * ·) 1
  | [], _, _, _, _, _ => by show ab 1 ≤ 1; decide
  | r :: rs, P, hP, h, cs, hcs => by
    have ih := dt_le b hb rs P hP (fun r' hr' => h r' (List.mem_cons_of_mem _ hr'))
    have hB : ∀ l : List Nat, 0 ≤ (l.map b).foldr (· * ·) 1 := by
      intro l
      induction l with
      | nil => show (0 : Int) ≤ 1; decide
      | cons x l ihl => exact Int.mul_nonneg (hb x) ihl
    have go : ∀ (cs pre : List Nat) (s : Int), ab s = 1 → P (pre ++ cs) → ab (lap M (dt M rs) r s pre cs) ≤ (cs.map fun c => ab (M r c)).sum * (rs.map b).foldr (· * ·) 1 := by
      intro cs
      induction cs with
      | nil =>
        intro pre s hs hp
        show ab 0 ≤ 0 * _
        rw [Int.zero_mul]; decide
      | cons c cs ihc =>
        intro pre s hs hp
        show ab (s * M r c * dt M rs (pre ++ cs) + lap M (dt M rs) r (-s) (pre ++ [c]) cs) ≤ (ab (M r c) + (cs.map fun c => ab (M r c)).sum) * _
        have h1 := ab_add (s * M r c * dt M rs (pre ++ cs)) (lap M (dt M rs) r (-s) (pre ++ [c]) cs)
        have h2 := ihc (pre ++ [c]) (-s) (by rw [ab_neg]; exact hs) (by rw [List.append_assoc]; exact hp)
        have h3 : ab (s * M r c * dt M rs (pre ++ cs)) ≤ ab (M r c) * (rs.map b).foldr (· * ·) 1 := by
          rw [ab_mul, ab_mul, hs, Int.one_mul]
          exact Int.mul_le_mul_of_nonneg_left (ih _ (hP _ _ _ hp)) (ab_nn _)
        rw [Int.add_mul]
        omega
    have h1 := go cs [] (if rs.length % 2 = 0 then 1 else -1) (by split <;> decide) hcs
    have h2 := h r List.mem_cons_self cs hcs
    exact Int.le_trans h1 (Int.mul_le_mul_of_nonneg_right h2 (hB rs))
