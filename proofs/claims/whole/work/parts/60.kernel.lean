/-! THE RAY OF A PAIR (S, R): its columns, its sharp rows, and no second one beside it -/
def exE (E : Nat → Nat → Int) (i : Nat) (y : Nat → Int) : Int := sm (fun c => E i c * y c) 6
theorem sm4 (f : Nat → Int) : sm f 4 = f 0 + f 1 + f 2 + f 3 := by
  show 0 + f 0 + f 1 + f 2 + f 3 = _
  omega
theorem cof0 (G : Nat → Nat → Int) : cof G 0 = d3 G 1 2 3 := rfl
theorem cof1 (G : Nat → Nat → Int) : cof G 1 = - d3 G 0 2 3 := rfl
theorem cof2 (G : Nat → Nat → Int) : cof G 2 = d3 G 0 1 3 := rfl
theorem cof3 (G : Nat → Nat → Int) : cof G 3 = - d3 G 0 1 2 := rfl
theorem lt3 {l : Nat} (h : l < 3) : l = 0 ∨ l = 1 ∨ l = 2 := by omega
theorem lt4 {l : Nat} (h : l < 4) : l = 0 ∨ l = 1 ∨ l = 2 ∨ l = 3 := by omega
theorem cof_ker (G : Nat → Nat → Int) {l : Nat} (hl : l < 3) : sm (fun p => G l p * cof G p) 4 = 0 := by
  rw [sm4, cof0, cof1, cof2, cof3]
  unfold d3
  rcases lt3 hl with rfl | rfl | rfl <;> grind
set_option maxHeartbeats 4000000 in
theorem ker34 {G : Nat → Nat → Int} {y : Nat → Int} (h : ∀ l, l < 3 → sm (fun p => G l p * y p) 4 = 0) : ∀ p q, p < 4 → q < 4 → y p * cof G q = y q * cof G p := by
  have h0 := h 0 (by decide)
  have h1 := h 1 (by decide)
  have h2 := h 2 (by decide)
  rw [sm4] at h0 h1 h2
  have a01 : y 0 * cof G 1 = y 1 * cof G 0 := by rw [cof0, cof1]; unfold d3; grind
  have a02 : y 0 * cof G 2 = y 2 * cof G 0 := by rw [cof0, cof2]; unfold d3; grind
  have a03 : y 0 * cof G 3 = y 3 * cof G 0 := by rw [cof0, cof3]; unfold d3; grind
  have a12 : y 1 * cof G 2 = y 2 * cof G 1 := by rw [cof1, cof2]; unfold d3; grind
  have a13 : y 1 * cof G 3 = y 3 * cof G 1 := by rw [cof1, cof3]; unfold d3; grind
  have a23 : y 2 * cof G 3 = y 3 * cof G 2 := by rw [cof2, cof3]; unfold d3; grind
  intro p q hp hq
  rcases lt4 hp with rfl | rfl | rfl | rfl <;> rcases lt4 hq with rfl | rfl | rfl | rfl <;> first | rfl | assumption | (apply Eq.symm; assumption)
/-- a sum over the columns, where but those of S count -/
theorem sm_pl {S : Nat} (hS : S < 64) {g : Nat → Int} (hg : ∀ c, c < 6 → ¬ bt S c → g c = 0) : ∀ k, k ≤ 6 → sm g k = sm (fun p => g (pl S p)) (ct S k)
  | 0, _ => rfl
  | k + 1, h => by
    have ih := sm_pl hS hg k (by omega)
    show sm g k + g k = _
    by_cases hb : bt S k
    · have e : ct S (k + 1) = ct S k + 1 := by
        show ct S k + S / 2 ^ k % 2 = _
        unfold bt at hb; omega
      rw [e]
      show _ = sm (fun p => g (pl S p)) (ct S k) + g (pl S (ct S k))
      rw [pl_of hS (by omega) hb, ih]
    · have e : ct S (k + 1) = ct S k := by
        show ct S k + S / 2 ^ k % 2 = _
        unfold bt at hb; omega
      rw [e, hg k (by omega) hb, ih]
      omega
theorem sm_pl4 {S : Nat} (hS : S < 64) (h4 : ct S 6 ≤ 4) {g : Nat → Int} (hg : ∀ c, c < 6 → ¬ bt S c → g c = 0) : sm g 6 = sm (fun p => if p < ct S 6 then g (pl S p) else 0) 4 := by
  rw [sm_pl hS hg 6 (Nat.le_refl _), sm_cut h4]
def yy (S : Nat) (y : Nat → Int) (p : Nat) : Int := if p < ct S 6 then y (pl S p) else 0
theorem sm_unit {y : Nat → Int} {q : Nat} (hq : q < 4) : sm (fun p => (if p = q then 1 else 0) * y p) 4 = y q := by
  rw [sm4]
  rcases lt4 hq with rfl | rfl | rfl | rfl <;> simp
theorem GG_low {E : Nat → Nat → Int} {S R l : Nat} (hS : S < 64) (h4 : ct S 6 ≤ 4) (hl : l < ct R 6) {y : Nat → Int} (hy : ∀ c, c < 6 → ¬ bt S c → y c = 0) : sm (fun p => GG E S R l p * yy S y p) 4 = exE E (pl R l) y := by
  unfold exE
  rw [sm_pl4 hS h4 (g := fun c => E (pl R l) c * y c) (fun c hc hb => by rw [hy c hc hb, Int.mul_zero])]
  apply sm_congr
  intro p hp
  unfold GG yy
  rw [if_pos hl]
  split
  · rfl
  · rw [Int.mul_zero]
theorem GG_high {E : Nat → Nat → Int} {S R l : Nat} (hsz : ct R 6 + 1 = ct S 6) (hl : ct R 6 ≤ l) (hl3 : l < 3) {y : Nat → Int} : sm (fun p => GG E S R l p * yy S y p) 4 = 0 := by
  rw [sm_congr (g := fun p => (if p = l + 1 then 1 else 0) * yy S y p) (fun p _ => by unfold GG; rw [if_neg (by omega)])]
  rw [sm_unit (by omega)]
  unfold yy
  rw [if_neg (by omega)]
theorem ray_off {E : Nat → Nat → Int} {S R : Nat} {c : Nat} (hb : ¬ bt S c) : ryv E S R c = 0 := if_neg hb
theorem ray_on {E : Nat → Nat → Int} {S R : Nat} {c : Nat} (hb : bt S c) : ryv E S R c = sg E S R * cof (GG E S R) (ct S c) := if_pos hb
/-- y is 0 beside the columns of S, and the rows of R are sharp in it: y is along the cofactors -/
theorem par_cof {E : Nat → Nat → Int} {S R : Nat} (hS : S < 64) (hR : R < 8) (hsz : ct R 6 + 1 = ct S 6) (h4 : ct S 6 ≤ 4) {y : Nat → Int} (hy : ∀ c, c < 6 → ¬ bt S c → y c = 0) (hr : ∀ i, i < 3 → bt R i → exE E i y = 0) : ∀ p q, p < 4 → q < 4 → yy S y p * cof (GG E S R) q = yy S y q * cof (GG E S R) p := by
  refine ker34 (fun l hl => ?_)
  by_cases h : l < ct R 6
  · rw [GG_low hS h4 h hy]
    obtain ⟨a, b, c⟩ := pl_ok (show R < 64 by omega) h
    refine hr _ ?_ b
    have : ¬ 3 ≤ pl R l := fun h3 => by
      unfold bt at b
      have : R / 2 ^ pl R l = 0 := Nat.div_eq_of_lt (Nat.lt_of_lt_of_le hR (Nat.pow_le_pow_right (n := 2) (by decide) h3))
      rw [this] at b
      cases b
    omega
  · exact GG_high hsz (by omega) hl
theorem ray_par {E : Nat → Nat → Int} {S R : Nat} (hS : S < 64) (hR : R < 8) (hsz : ct R 6 + 1 = ct S 6) (h4 : ct S 6 ≤ 4) {y : Nat → Int} (hy : ∀ c, c < 6 → ¬ bt S c → y c = 0) (hr : ∀ i, i < 3 → bt R i → exE E i y = 0) : ∀ c c', c < 6 → c' < 6 → y c * ryv E S R c' = y c' * ryv E S R c := by
  have h := par_cof hS hR hsz h4 hy hr
  have hyy : ∀ c, c < 6 → bt S c → yy S y (ct S c) = y c := fun c hc hb => by
    unfold yy
    rw [if_pos (ct_lt hb hc), pl_of hS hc hb]
  intro c c' hc hc'
  by_cases b : bt S c
  · by_cases b' : bt S c'
    · have e := h (ct S c) (ct S c') (by have := ct_lt b hc; omega) (by have := ct_lt b' hc'; omega)
      rw [hyy c hc b, hyy c' hc' b'] at e
      rw [ray_on b, ray_on b']
      have : ∀ a x b y s : Int, a * x = b * y → a * (s * x) = b * (s * y) := fun a x b y s h => by grind
      exact this _ _ _ _ _ e
    · rw [hy c' hc' b']
      rw [ray_off b', Int.mul_zero, Int.zero_mul]
  · rw [hy c hc b]
    rw [ray_off b, Int.mul_zero, Int.zero_mul]
theorem ray_sharp {E : Nat → Nat → Int} {S R : Nat} (hS : S < 64) (hR : R < 8) (hsz : ct R 6 + 1 = ct S 6) (h4 : ct S 6 ≤ 4) {i : Nat} (hi : i < 3) (hb : bt R i) : exE E i (ryv E S R) = 0 := by
  have hc : ct R i < ct R 6 := ct_lt hb (by omega)
  have e := GG_low (E := E) (S := S) (R := R) (l := ct R i) hS h4 hc (y := ryv E S R) (fun c _ hb => ray_off hb)
  rw [pl_of (show R < 64 by omega) (by omega) hb] at e
  rw [← e]
  rw [sm_congr (g := fun p => sg E S R * (GG E S R (ct R i) p * cof (GG E S R) p)) (fun p hp => ?_), sm_mul, cof_ker _ (by omega), Int.mul_zero]
  by_cases hp' : p < ct S 6
  · unfold yy
    obtain ⟨a1, a2, a3⟩ := pl_ok hS hp'
    rw [if_pos hp', ray_on a2, a3]
    grind
  · unfold yy
    rw [if_neg hp']
    have : GG E S R (ct R i) p = 0 := by unfold GG; rw [if_pos hc, if_neg hp']
    rw [this]; simp
theorem ray_pos {E : Nat → Nat → Int} {S R : Nat} (ok : okr E S R) {c : Nat} (hc : c < 6) (hb : bt S c) : 0 < ryv E S R c := by
  rw [ray_on hb]
  exact ok _ (ct_lt hb hc)
