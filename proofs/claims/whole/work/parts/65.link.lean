/-! HOW GREAT the reference's numbers are -/
def pb (β : Nat → Int) : Nat → Int
  | 0 => 1
  | k + 1 => β k * pb β k
theorem pb_nn {β : Nat → Int} (h : ∀ r, 0 ≤ β r) : ∀ k, 0 ≤ pb β k
  | 0 => by show (0 : Int) ≤ 1; decide
  | k + 1 => Int.mul_nonneg (h k) (pb_nn h k)
theorem dt_lv {M : Nat → Nat → Int} {β : Nat → Int} (hβ : ∀ r, 0 ≤ β r) {w : Nat} (Q : Nat → List Nat → Prop) (hQ : ∀ k l c l', Q (k + 1) (l ++ c :: l') → Q k (l ++ l')) (hr : ∀ k, k < w → ∀ cs, Q (k + 1) cs → (cs.map fun c => ab (M k c)).sum ≤ β k) : ∀ k, k ≤ w → ∀ cs, Q k cs → ab (dt M (rv k) cs) ≤ pb β k := by
  intro k
  induction k with
  | zero => intro _ cs _; show ab 1 ≤ 1; decide
  | succ k ih =>
    intro hk cs hcs
    have ih := ih (by omega)
    have go : ∀ (cs pre : List Nat) (s : Int), ab s = 1 → Q (k + 1) (pre ++ cs) → ab (lap M (dt M (rv k)) k s pre cs) ≤ (cs.map fun c => ab (M k c)).sum * pb β k := by
      intro cs
      induction cs with
      | nil =>
        intro pre s hs hp
        show ab 0 ≤ 0 * _
        rw [Int.zero_mul]; decide
      | cons c cs ihc =>
        intro pre s hs hp
        show ab (s * M k c * dt M (rv k) (pre ++ cs) + lap M (dt M (rv k)) k (-s) (pre ++ [c]) cs) ≤ (ab (M k c) + (cs.map fun c => ab (M k c)).sum) * _
        have h1 := ab_add (s * M k c * dt M (rv k) (pre ++ cs)) (lap M (dt M (rv k)) k (-s) (pre ++ [c]) cs)
        have h2 := ihc (pre ++ [c]) (-s) (by rw [ab_neg]; exact hs) (by rw [List.append_assoc]; exact hp)
        have h3 : ab (s * M k c * dt M (rv k) (pre ++ cs)) ≤ ab (M k c) * pb β k := by
          rw [ab_mul, ab_mul, hs, Int.one_mul]
          exact Int.mul_le_mul_of_nonneg_left (ih _ (hQ _ _ _ _ hp)) (ab_nn _)
        rw [Int.add_mul]
        omega
    have h1 := go cs [] (if (rv k).length % 2 = 0 then 1 else -1) (by split <;> decide) hcs
    exact Int.le_trans h1 (Int.mul_le_mul_of_nonneg_right (hr k (by omega) cs hcs) (pb_nn hβ k))
theorem sum_le_len {g f : Nat → Int} {K : Int} (h : ∀ c, g c ≤ K + f c) : ∀ cs : List Nat, (cs.map g).sum ≤ K * cs.length + (cs.map f).sum
  | [] => by simp
  | c :: cs => by
    have := sum_le_len h cs
    have := h c
    simp only [List.map_cons, List.sum_cons, List.length_cons]
    have e : K * ((cs.length + 1 : Nat) : Int) = K * cs.length + K := by rw [Int.natCast_add, Int.mul_add]; simp
    omega
theorem sm_at {g : Nat → Int} {w : Nat} (h : ∀ c, c < w → g c = 0) : sm g (w + 1) = g w := by
  show sm g w + g w = _
  rw [sm_zero h]; omega
/-- the sizes, row by row -/
def bz (h : Nat) (q u : Int) (r : Nat) : Int := if r < h then 9 * ((r + 1 : Nat) : Int) + q else u
theorem bz_nn {h : Nat} {q u : Int} (hq : 0 ≤ q) (hu : 0 ≤ u) (r : Nat) : 0 ≤ bz h q u r := by unfold bz; split <;> omega
theorem pb_tab : ∀ w, w ≤ 5 → ∀ h, h ≤ 3 → pb (bz h 0 1) w ≤ 4374 ∧ pb (bz h 41 2) w ≤ 802400 ∧ pb (bz h 41 5) w ≤ 5015000 := by decide +kernel
theorem big_dt {A : Nat → Nat → Int} {w h : Nat} {u : Int} (hu : 0 ≤ u) (h1 : ∀ r, r < w → r < h → (∀ c, c < w → ab (A r c) ≤ 9) ∧ ab (A r w) ≤ 50) (h2 : ∀ r, r < w → h ≤ r → sm (fun c => ab (A r c)) (w + 1) ≤ u) {cs : List Nat} (hl : cs.length = w) (hc : fewC w cs) : ab (dt A (rv w) cs) ≤ pb (bz h 41 u) w := by
  refine dt_lv (w := w) (bz_nn (by decide) hu) (fun k cs => cs.length = k ∧ fewC w cs) (fun k l c l' hq => ⟨?_, hq.2.rem l c l'⟩) (fun k hk cs hq => ?_) w (Nat.le_refl _) cs ⟨hl, hc⟩
  · have := hq.1
    simp only [List.length_append, List.length_cons] at this ⊢
    omega
  · unfold bz
    by_cases e : k < h
    · rw [if_pos e]
      obtain ⟨a1, a2⟩ := h1 k hk e
      have s1 := sum_le_len (g := fun c => ab (A k c)) (f := fun c => if c < w then 0 else if c = w then 41 else ab (A k c)) (K := 9) (fun c => by
        show ab (A k c) ≤ 9 + (if c < w then 0 else if c = w then 41 else ab (A k c))
        by_cases c1 : c < w
        · rw [if_pos c1]; have := a1 c c1; omega
        · rw [if_neg c1]
          by_cases c2 : c = w
          · rw [if_pos c2, c2]; omega
          · rw [if_neg c2]; omega) cs
      have s2 := hq.2 (fun c => if c < w then 0 else if c = w then 41 else ab (A k c)) (fun c => by
        show 0 ≤ (if c < w then 0 else if c = w then 41 else ab (A k c))
        have := ab_nn (A k c)
        split
        · omega
        · split <;> omega)
      rw [sm_at (fun c hc => if_pos hc), if_neg (by omega), if_pos rfl] at s2
      rw [hq.1] at s1
      omega
    · rw [if_neg e]
      exact Int.le_trans (hq.2 _ (fun c => ab_nn _)) (h2 k hk (by omega))
theorem big_Dk {A : Nat → Nat → Int} {w h : Nat} (h1 : ∀ r, r < w → r < h → ∀ c, c < w → ab (A r c) ≤ 9) (h2 : ∀ r, r < w → h ≤ r → sm (fun c => ab (A r c)) w ≤ 1) : ab (dt A (rv w) (ra w)) ≤ pb (bz h 0 1) w := by
  refine dt_lv (w := w) (bz_nn (by decide) (by decide)) (fun k cs => cs.length = k ∧ ∀ f : Nat → Int, (∀ c, 0 ≤ f c) → (cs.map f).sum ≤ sm f w) (fun k l c l' hq => ⟨?_, fun f hf => ?_⟩) (fun k hk cs hq => ?_) w (Nat.le_refl _) (ra w) ⟨ra_len w, fun f hf => by rw [ra_sum]; exact Int.le_refl _⟩
  · have := hq.1
    simp only [List.length_append, List.length_cons] at this ⊢
    omega
  · have a1 := hq.2 f hf
    have a2 := hf c
    simp only [List.map_append, List.map_cons, List.sum_append, List.sum_cons] at a1 ⊢
    omega
  · unfold bz
    by_cases e : k < h
    · rw [if_pos e]
      have s1 := sum_le_len (g := fun c => ab (A k c)) (f := fun c => if c < w then 0 else ab (A k c)) (K := 9) (fun c => by
        show ab (A k c) ≤ 9 + (if c < w then 0 else ab (A k c))
        by_cases c1 : c < w
        · rw [if_pos c1]; have := h1 k hk e c c1; omega
        · rw [if_neg c1]; omega) cs
      have s2 := hq.2 (fun c => if c < w then 0 else ab (A k c)) (fun c => by
        show 0 ≤ (if c < w then 0 else ab (A k c))
        have := ab_nn (A k c)
        split <;> omega)
      rw [sm_zero (fun c hc => if_pos hc)] at s2
      rw [hq.1] at s1
      omega
    · rw [if_neg e]
      exact Int.le_trans (hq.2 _ (fun c => ab_nn _)) (h2 k hk (by omega))
/-- the sizes of a program -/
def PZ (n m : Nat) (a : Nat → Nat → Int) (b e cc : Nat → Int) : Prop := 1 ≤ n ∧ n ≤ 4 ∧ m ≤ 3 ∧ (∀ i, i < 3 → ∀ j, j < 4 → ab (a i j) ≤ 9) ∧ (∀ i, i < 3 → ab (b i) ≤ 50) ∧ (∀ i, i < 3 → ab (e i) ≤ 9) ∧ ∀ j, j < 4 → ab (cc j) ≤ 9
def Kv (x2 : Int32) : Int := if x2 = 1 then 5015000 else 802400
def Kd (x2 : Int32) : Int := if x2 = 1 then 5015000 else 4374
theorem ab_sg {s x : Int} (h : s = 1 ∨ s = -1) : ab (s * x) = ab x := by
  rw [ab_mul]
  rcases h with rfl | rfl
  · show 1 * ab x = _; omega
  · show 1 * ab x = _; omega
theorem sm_abone {j w : Nat} (hj : j < w) : sm (fun c => ab (if c = j then 1 else 0)) w = 1 := by
  have := sm_one (v := fun _ => 1) hj
  refine Eq.trans ?_ this
  exact sm_congr (fun c _ => by show ab (if c = j then 1 else 0) = (if c = j then 1 else 0) * 1; split <;> rfl)
theorem sm_abn : ∀ n, sm (fun _ => (1 : Int)) n = n
  | 0 => rfl
  | n + 1 => by show sm (fun _ => (1 : Int)) n + 1 = _; rw [sm_abn n]; omega
section Mv
variable {x2 : Int32} {n m mask w B : Nat} {a : Nat → Nat → Int} {b e cc : Nat → Int} {sn : Nat → Int32} {bb : Nat → Nat → Int} {br : Nat → Int} {bs : Nat → Int32}
theorem row_b (hZ : PZ n m a b e cc) (hM : MBD x2 n m mask a b e sn w B bb br bs) {k : Nat} (hk : k < ct mask m) : (∀ c, c < 5 → ab (bb k c) ≤ 9) ∧ ab (br k) ≤ 50 := by
  obtain ⟨i, h2, h3, h4⟩ := ct_at hk
  obtain ⟨f1, f2, f3⟩ := hM.2.2.1 i h2 h3
  have hm := hZ.2.2.1
  rw [h4] at f1 f3
  constructor
  · intro c hc
    rw [f1 c hc]
    split
    · exact hZ.2.2.2.1 i (by omega) c (by have := hZ.2.1; omega)
    · split
      · split
        · rw [ab_neg]; exact hZ.2.2.2.2.2.1 i (by omega)
        · decide
      · decide
  · rw [f3]
    split
    · decide
    · exact hZ.2.2.2.2.1 i (by omega)
/-- the other bounds -/
theorem oth_b (hn : n ≤ 4) (hM : MBD x2 n m mask a b e sn w B bb br bs) {k : Nat} (hk : ct mask m ≤ k) (hB : k < B) : sm (fun c => ab (bb k c)) w + ab (br k) ≤ 5 ∧ (x2 ≠ 1 → sm (fun c => ab (bb k c)) w ≤ 1 ∧ ab (br k) ≤ 1) := by
  have hw5 : w ≤ 5 := by rcases x2c hM.1 with ⟨-, h⟩ | ⟨-, h⟩ | ⟨-, h⟩ <;> omega
  rcases bd_cases hM hB with ⟨i, hi, hbi, rfl⟩ | ⟨j, hj, rfl⟩ | ⟨hx0, rfl⟩
  · have := ct_lt hbi hi; omega
  · obtain ⟨f1, f2, f3⟩ := hM.2.2.2.1 j hj
    rw [f3, sm_congr (g := fun c => ab (if c = j then 1 else 0)) (fun c hc => by rw [f1 c (by omega)]), sm_abone hj]
    exact ⟨by decide, fun _ => ⟨by decide, by decide⟩⟩
  · obtain ⟨f1, f2, f3⟩ := hM.2.2.2.2 hx0
    rcases x2c hM.1 with ⟨rfl, rfl⟩ | ⟨rfl, rfl⟩ | ⟨rfl, rfl⟩
    · exact absurd rfl hx0
    · refine ⟨?_, fun h => absurd rfl h⟩
      rw [f3, sm_congr (g := fun _ => 1) (fun c hc => by rw [f1 c (by omega)]; unfold lastR; rw [if_neg (by decide)]; show ab (if c < w then 1 else 0) = 1; rw [if_pos hc]; rfl), sm_abn]
      show (w : Int) + 1 ≤ 5
      omega
    · rw [f3, sm_congr (g := fun c => ab (if c = n then 1 else 0)) (fun c hc => by rw [f1 c (by omega)]; rfl), sm_abone (by omega)]
      exact ⟨by decide, fun _ => ⟨by decide, by decide⟩⟩
theorem vtx_b (hZ : PZ n m a b e cc) (hM : MBD x2 n m mask a b e sn w B bb br bs) {p : Nat} {v : Nat → Int} {d : Int} (hv : vtx w B bb br p v d) : d ≤ Kd x2 ∧ ∀ j, j < w → v j ≤ Kv x2 := by
  have hn := hZ.2.1
  have hw5 : w ≤ 5 := by rcases x2c hM.1 with ⟨-, h⟩ | ⟨-, h⟩ | ⟨-, h⟩ <;> omega
  obtain ⟨hd, hc, A, P, σ, hA, hP, hσ, hd', hv'⟩ := hv
  have hh : ct p (ct mask m) ≤ 3 := Nat.le_trans (ct_le _ _) (Nat.le_trans (ct_le _ _) hZ.2.2.1)
  have low : ∀ r, r < w → r < ct p (ct mask m) → (∀ c, c < w → ab (A r c) ≤ 9) ∧ ab (A r w) ≤ 50 := fun r hr hlt => by
    obtain ⟨k, k1, k2, k3, k4, k5⟩ := hA r hr
    have hk : k < ct mask m := Classical.byContradiction (fun hno => by
      have := ct_mono p (show ct mask m ≤ k by omega)
      omega)
    obtain ⟨b1, b2⟩ := row_b hZ hM hk
    exact ⟨fun c hc => by rw [k4 c hc]; exact b1 c (by omega), by rw [k5]; exact b2⟩
  have high : ∀ r, r < w → ct p (ct mask m) ≤ r → sm (fun c => ab (A r c)) w + ab (A r w) ≤ 5 ∧ (x2 ≠ 1 → sm (fun c => ab (A r c)) w ≤ 1 ∧ ab (A r w) ≤ 1) := fun r hr hge => by
    obtain ⟨k, k1, k2, k3, k4, k5⟩ := hA r hr
    have hk : ct mask m ≤ k := Classical.byContradiction (fun hno => by
      have := ct_lt k2 (show k < ct mask m by omega)
      omega)
    rw [k5, sm_congr (g := fun c => ab (bb k c)) (fun c hc => by rw [k4 c hc])]
    exact oth_b hn hM hk k1
  obtain ⟨t1, t2, t3⟩ := pb_tab w hw5 _ hh
  have ev : ∀ x : Int, x ≤ ab x := fun x => by unfold ab; split <;> omega
  have dA : ab d = ab (dt A (rv w) (ra w)) := by rw [hd', ab_sg hσ]; exact hP.2.2 _ (ra_len w)
  have vA : ∀ j, j < w → ab (v j) = ab (dt A (rv w) ((ra w).set j w)) := fun j hj => by rw [hv' j hj, ab_sg hσ]; exact hP.2.2 _ (by rw [List.length_set]; exact ra_len w)
  unfold Kd Kv
  by_cases hx : x2 = 1
  · rw [if_pos hx, if_pos hx]
    have h2 : ∀ r, r < w → ct p (ct mask m) ≤ r → sm (fun c => ab (A r c)) (w + 1) ≤ 5 := fun r hr hge => (high r hr hge).1
    refine ⟨?_, fun j hj => ?_⟩
    · have := big_dt (u := 5) (by decide) low h2 (ra_len w) (few_ra (by omega))
      have := ev d
      omega
    · have := big_dt (u := 5) (by decide) low h2 (cs := (ra w).set j w) (by rw [List.length_set]; exact ra_len w) (few_set (Nat.le_refl _) (Nat.le_refl _))
      have := ev (v j)
      have := vA j hj
      omega
  · rw [if_neg hx, if_neg hx]
    refine ⟨?_, fun j hj => ?_⟩
    · have := big_Dk (fun r h1 h2 => (low r h1 h2).1) (fun r hr hge => ((high r hr hge).2 hx).1)
      have := ev d
      omega
    · have := big_dt (u := 2) (by decide) low (fun r hr hge => by
        have := (high r hr hge).2 hx
        show sm (fun c => ab (A r c)) w + ab (A r w) ≤ 2
        omega) (cs := (ra w).set j w) (by rw [List.length_set]; exact ra_len w) (few_set (Nat.le_refl _) (Nat.le_refl _))
      have := ev (v j)
      have := vA j hj
      omega
end Mv
