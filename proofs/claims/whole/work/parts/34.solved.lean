/-! THE REFERENCE'S ELIMINATION: solved -/
/-- P has the rows of A, in some order -/
def rowsOf (P A : Nat → Nat → Int) (w : Nat) : Prop := (∀ i, i < w → ∃ j, j < w ∧ ∀ c, P i c = A j c) ∧ (∀ j, j < w → ∃ i, i < w ∧ ∀ c, P i c = A j c) ∧ ∀ cs : List Nat, cs.length = w → ab (dt P (rv w) cs) = ab (dt A (rv w) cs)
theorem rowsOf.swap {P A : Nat → Nat → Int} {w a b : Nat} (hw : w ≤ 5) (h : rowsOf P A w) (hab : a ≤ b) (ha : a < w) (hb : b < w) : rowsOf (fun r c => P (if r = a then b else if r = b then a else r) c) A w := by
  refine ⟨fun i hi => h.1 _ ?_, fun j hj => ?_, fun cs hc => ?_⟩
  · split
    · exact hb
    · split
      · exact ha
      · exact hi
  · obtain ⟨i, hi, he⟩ := h.2.1 j hj
    by_cases e1 : i = a
    · refine ⟨b, hb, fun c => ?_⟩
      show P (if b = a then b else if b = b then a else b) c = _
      by_cases e2 : b = a
      · rw [if_pos e2, e2, ← e1]; exact he c
      · rw [if_neg e2, if_pos rfl, ← e1]; exact he c
    · by_cases e2 : i = b
      · refine ⟨a, ha, fun c => ?_⟩
        show P (if a = a then b else _) c = _
        rw [if_pos rfl, ← e2]; exact he c
      · refine ⟨i, hi, fun c => ?_⟩
        show P (if i = a then b else if i = b then a else i) c = _
        rw [if_neg e1, if_neg e2]; exact he c
  · by_cases e : a = b
    · subst e
      rw [← h.2.2 cs hc]
      congr 1
      refine dt_congr _ _ (fun r _ c => ?_)
      show P (if r = a then a else if r = a then a else r) c = P r c
      by_cases e' : r = a
      · rw [if_pos e', e']
      · rw [if_neg e', if_neg e']
    · have := sw_all (M := P) hw (show a < b by omega) hb hc
      show ab (dt (sw P a b) (rv w) cs) = _
      rw [this, ab_neg]
      exact h.2.2 cs hc
theorem sm_nn {f : Nat → Int} (hf : ∀ c, 0 ≤ f c) : ∀ n, 0 ≤ sm f n
  | 0 => Int.le_refl 0
  | n + 1 => by
    show 0 ≤ sm f n + f n
    have := sm_nn hf n
    have := hf n
    omega
theorem sm_mono {f : Nat → Int} (hf : ∀ c, 0 ≤ f c) {a : Nat} : ∀ {b : Nat}, a ≤ b → sm f a ≤ sm f b
  | 0, h => by rw [show a = 0 by omega]; exact Int.le_refl _
  | b + 1, h => by
    by_cases e : a = b + 1
    · rw [e]; exact Int.le_refl _
    · have := sm_mono hf (show a ≤ b by omega)
      have := hf b
      show sm f a ≤ sm f b + f b
      omega
/-- the columns of cs are, for every sum of numbers from 0 on, no more than the columns below w + 1 -/
def fewC (w : Nat) (cs : List Nat) : Prop := ∀ f : Nat → Int, (∀ c, 0 ≤ f c) → (cs.map f).sum ≤ sm f (w + 1)
theorem fewC.rem {w : Nat} (l : List Nat) (c : Nat) (l' : List Nat) (h : fewC w (l ++ c :: l')) : fewC w (l ++ l') := by
  intro f hf
  have h1 := h f hf
  have h2 := hf c
  simp only [List.map_append, List.map_cons, List.sum_append, List.sum_cons] at h1 ⊢
  omega
theorem ra_sum (f : Nat → Int) : ∀ k, ((ra k).map f).sum = sm f k
  | 0 => rfl
  | k + 1 => by
    show ((ra k ++ [k]).map f).sum = sm f k + f k
    rw [List.map_append, List.sum_append, ra_sum f k]
    simp
theorem set_sum {f : Nat → Int} (hf : ∀ c, 0 ≤ f c) (c : Nat) : ∀ (l : List Nat) (r : Nat), ((l.set r c).map f).sum ≤ (l.map f).sum + f c
  | [], _ => by have := hf c; simp; exact this
  | x :: l, 0 => by have := hf x; simp only [List.set_cons_zero, List.map_cons, List.sum_cons]; omega
  | x :: l, r + 1 => by have := set_sum hf c l r; simp only [List.set_cons_succ, List.map_cons, List.sum_cons]; omega
theorem few_ra {w k : Nat} (h : k ≤ w + 1) : fewC w (ra k) := fun f hf => by rw [ra_sum]; exact sm_mono hf h
theorem few_bd {w k c : Nat} (h1 : k ≤ c) (h2 : c ≤ w) : fewC w (ra k ++ [c]) := fun f hf => by
  rw [List.map_append, List.sum_append, ra_sum]
  have a1 := sm_mono hf h1
  have a2 := sm_mono hf (show c + 1 ≤ w + 1 by omega)
  have a3 : sm f (c + 1) = sm f c + f c := rfl
  simp
  omega
theorem few_set {w k r c : Nat} (h1 : k ≤ c) (h2 : c ≤ w) : fewC w ((ra k).set r c) := fun f hf => by
  have a0 := set_sum hf c (ra k) r
  rw [ra_sum] at a0
  have a1 := sm_mono hf h1
  have a2 := sm_mono hf (show c + 1 ≤ w + 1 by omega)
  have a3 : sm f (c + 1) = sm f c + f c := rfl
  omega
theorem rv_len : ∀ k, (rv k).length = k
  | 0 => rfl
  | k + 1 => by show (rv k).length + 1 = k + 1; rw [rv_len]
theorem pow_fold (B : Int) : ∀ l : List Nat, (l.map fun _ => B).foldr (· * ·) 1 = B ^ l.length
  | [] => (Int.pow_zero B).symm
  | x :: l => by
    show B * (l.map fun _ => B).foldr (· * ·) 1 = B ^ (l.length + 1)
    rw [pow_fold, Int.pow_succ, Int.mul_comm]
section Sv
variable {P A : Nat → Nat → Int} {w : Nat}
theorem row_sum (hs : ∀ j, j < w → sm (fun c => ab (A j c)) (w + 1) ≤ 95) (hP : rowsOf P A w) {r : Nat} (hr : r < w) {cs : List Nat} (h : fewC w cs) : (cs.map fun c => ab (P r c)).sum ≤ 95 := by
  obtain ⟨j, hj, he⟩ := hP.1 r hr
  refine Int.le_trans (h _ (fun c => ab_nn _)) ?_
  rw [sm_congr (g := fun c => ab (A j c)) (fun c _ => by rw [he])]
  exact hs j hj
theorem dt_95 (hs : ∀ j, j < w → sm (fun c => ab (A j c)) (w + 1) ≤ 95) (hP : rowsOf P A w) {rs : List Nat} (hrs : ∀ r ∈ rs, r < w) {cs : List Nat} (h : fewC w cs) : ab (dt P rs cs) ≤ 95 ^ rs.length := by
  have := dt_le (M := P) (fun _ => 95) (fun _ => by decide) rs (fewC w) (fun l c l' h => h.rem l c l') (fun r hr cs hc => row_sum hs hP (hrs r hr) hc) cs h
  rw [pow_fold] at this
  exact this
theorem rep_lt {k r c : Nat} (hk : k ≤ 5) (hr : r < k) (hc : c < k) (hD : Dk P k ≠ 0) : rep P k r c = if r = c then Dk P k else 0 := by
  have key : ∀ i, i < k → sm (fun j => P i j * (rep P k j c - if j = c then Dk P k else 0)) k = 0 := by
    intro i hi
    have e1 := c1_all (M := P) hk hi c
    have e2 : ∀ n, n ≤ k → sm (fun j => P i j * (if j = c then Dk P k else 0)) n = if c < n then P i c * Dk P k else 0 := by
      intro n
      induction n with
      | zero => intro _; rw [if_neg (by omega)]; rfl
      | succ n ih =>
        intro hn
        show sm _ n + P i n * (if n = c then Dk P k else 0) = _
        rw [ih (by omega)]
        by_cases h1 : n = c
        · subst h1; rw [if_neg (by omega), if_pos rfl, if_pos (by omega)]; omega
        · rw [if_neg h1]
          by_cases h2 : c < n
          · rw [if_pos h2, if_pos (by omega)]; omega
          · rw [if_neg h2, if_neg (by omega)]; omega
    have e3 := e2 k (Nat.le_refl _)
    rw [if_pos hc] at e3
    have e4 : sm (fun j => P i j * (rep P k j c - if j = c then Dk P k else 0)) k = sm (fun j => P i j * rep P k j c) k - sm (fun j => P i j * (if j = c then Dk P k else 0)) k := by
      rw [← sm_sub]
      exact sm_congr (fun j _ => Int.mul_sub _ _ _)
    rw [e4, e1, e3]
    rw [Int.mul_comm]; omega
  have := c3_all (M := P) hk hr hD key
  omega
theorem bdr_lt {k r c : Nat} (hk : k ≤ 4) (hc : c < k) (hD : Dk P k ≠ 0) : bdr P k r c = 0 := by
  rw [c2_all hk r c]
  have e : ∀ n, n ≤ k → sm (fun i => P r i * rep P k i c) n = if c < n then P r c * Dk P k else 0 := by
    intro n
    induction n with
    | zero => intro _; rw [if_neg (by omega)]; rfl
    | succ n ih =>
      intro hn
      show sm _ n + P r n * rep P k n c = _
      rw [ih (by omega), rep_lt (by omega) (by omega) hc hD]
      by_cases h1 : n = c
      · subst h1; rw [if_neg (by omega), if_pos rfl, if_pos (by omega)]; omega
      · rw [if_neg h1]
        by_cases h2 : c < n
        · rw [if_pos h2, if_pos (by omega)]; omega
        · rw [if_neg h2, if_neg (by omega)]; omega
  rw [e k (Nat.le_refl _), if_pos hc, Int.mul_comm]; omega
theorem Dk_95 (hs : ∀ j, j < w → sm (fun c => ab (A j c)) (w + 1) ≤ 95) (hP : rowsOf P A w) {k : Nat} (hk : k ≤ w) : ab (Dk P k) ≤ 95 ^ k := by
  have := dt_95 hs hP (rs := rv k) (fun r hr => by have := rv_lt hr; omega) (few_ra (show k ≤ w + 1 by omega))
  rw [rv_len] at this
  exact this
theorem rep_95 (hs : ∀ j, j < w → sm (fun c => ab (A j c)) (w + 1) ≤ 95) (hP : rowsOf P A w) (hw : w ≤ 5) {k r c : Nat} (hk : k ≤ w) (hr : r < k) (hc : c ≤ w) (hD : Dk P k ≠ 0) : ab (rep P k r c) ≤ 95 ^ k := by
  by_cases h : c < k
  · rw [rep_lt (by omega) hr h hD]
    split
    · exact Dk_95 hs hP hk
    · exact Int.pow_nonneg (by decide)
  · have := dt_95 hs hP (rs := rv k) (fun r hr => by have := rv_lt hr; omega) (few_set (r := r) (show k ≤ c by omega) hc)
    rw [rv_len] at this
    exact this
theorem bdr_95 (hs : ∀ j, j < w → sm (fun c => ab (A j c)) (w + 1) ≤ 95) (hP : rowsOf P A w) (hw : w ≤ 5) {k r c : Nat} (hk : k < w) (hr : r < w) (hc : c ≤ w) (hD : Dk P k ≠ 0) : ab (bdr P k r c) ≤ 95 ^ (k + 1) := by
  by_cases h : c < k
  · rw [bdr_lt (by omega) h hD]
    exact Int.pow_nonneg (by decide)
  · have := dt_95 hs hP (rs := r :: rv k) (fun r' hr' => by
      rcases List.mem_cons.mp hr' with h | h
      · omega
      · have := rv_lt h; omega) (few_bd (show k ≤ c by omega) hc)
    rw [List.length_cons, rv_len] at this
    exact this
end Sv
theorem p95 : ∀ k, k ≤ 4 → ∀ a, a ≤ k + 1 → ∀ b, b ≤ k + 1 → a + b ≤ 9 → (95 : Int) ^ a * 95 ^ b ≤ 2 ^ 60 := by decide +kernel
theorem ab_p {x y : Int} {a b k : Nat} (hx : ab x ≤ 95 ^ a) (hy : ab y ≤ 95 ^ b) (hk : k ≤ 4) (ha : a ≤ k + 1) (hb : b ≤ k + 1) (hab : a + b ≤ 9) : ab (x * y) ≤ 2 ^ 60 := Int.le_trans (ab_mul_le hx hy) (p95 k hk a ha b hb hab)
/-- the matrix behind k steps -/
def stp (P : Nat → Nat → Int) (k r c : Nat) : Int := if r < k then rep P k r c else bdr P k r c
