/-! EVERY EDGE RAY comes from a pair (S, R) -/
theorem bt_lo {p t k : Nat} : bt (p + 2 ^ (k + 1) * t) k ↔ bt p k := by
  unfold bt
  rw [Nat.pow_succ, show p + 2 ^ k * 2 * t = p + 2 ^ k * (2 * t) by rw [Nat.mul_assoc], Nat.add_mul_div_left _ _ (Nat.two_pow_pos k)]
  omega
theorem bt_hi {p k : Nat} (h : p < 2 ^ k) : ¬ bt p k := by
  unfold bt
  rw [Nat.div_eq_of_lt h]
  omega
theorem bt_hi' {p k j : Nat} (h : p < 2 ^ k) (hj : k ≤ j) : ¬ bt p j := bt_hi (Nat.lt_of_lt_of_le h (Nat.pow_le_pow_right (by decide) hj))
/-- a number with given bits -/
theorem mkp (Q : Nat → Prop) : ∀ B, ∃ p, p < 2 ^ B ∧ ∀ k, k < B → (bt p k ↔ Q k)
  | 0 => ⟨0, by decide, fun k h => by omega⟩
  | B + 1 => by
    obtain ⟨p, h1, h2⟩ := mkp Q B
    have e : 2 ^ (B + 1) = 2 ^ B * 2 := Nat.pow_succ 2 B
    rcases Classical.em (Q B) with q | q
    · refine ⟨p + 2 ^ B, by omega, fun k hk => ?_⟩
      by_cases ek : k = B
      · subst ek
        refine ⟨fun _ => q, fun _ => ?_⟩
        unfold bt
        rw [Nat.add_div_right _ (Nat.two_pow_pos k), Nat.div_eq_of_lt h1]
      · have : 2 ^ B = 2 ^ (k + 1) * 2 ^ (B - (k + 1)) := by rw [← Nat.pow_add]; congr 1; omega
        rw [this]
        exact bt_lo.trans (h2 k (by omega))
    · refine ⟨p, by omega, fun k hk => ?_⟩
      by_cases ek : k = B
      · subst ek
        exact ⟨fun h => absurd h (bt_hi h1), fun h => absurd h q⟩
      · exact h2 k (by omega)
theorem ct_hi {p k : Nat} (h : p < 2 ^ k) : ∀ d, ct p (k + d) = ct p k
  | 0 => rfl
  | d + 1 => by
    have := ct_hi h d
    show ct p (k + d) + p / 2 ^ (k + d) % 2 = _
    have hb := bt_hi' (j := k + d) h (by omega)
    unfold bt at hb
    omega
/-- an edge ray: all rows hold, and where its zeros are kept and its sharp rows stay sharp, one can but go along it -/
def EXT (n m mask : Nat) (E : Nat → Nat → Int) (sn : Nat → Int32) (z : Nat → Int) : Prop :=
  (∀ c, c < 6 → 0 ≤ z c) ∧ (∀ c, 2 + n ≤ c → c < 6 → z c = 0) ∧ (∀ i, i < m → bt mask i → fitS (sn i) (exE E i z)) ∧ (∃ c, c < 6 ∧ z c ≠ 0) ∧
  ∀ y : Nat → Int, (∀ c, c < 6 → z c = 0 → y c = 0) → (∀ i, i < m → bt mask i → exE E i z = 0 → exE E i y = 0) → ∀ c c', c < 6 → c' < 6 → y c * z c' = y c' * z c
theorem exE_scale {E : Nat → Nat → Int} {i : Nat} {y z : Nat → Int} {a b : Int} (h : ∀ c, c < 6 → y c * a = z c * b) : exE E i y * a = exE E i z * b := by
  unfold exE
  rw [Int.mul_comm _ a, Int.mul_comm _ b, ← sm_mul, ← sm_mul]
  exact sm_congr (fun c hc => by have := h c hc; grind)
theorem ext_fin {n m mask : Nat} (hn : n ≤ 4) (hm : m ≤ 3) {E : Nat → Nat → Int} {sn : Nat → Int32} {z : Nat → Int} (h : EXT n m mask E sn z) {S R : Nat} (hS : S < 2 ^ (2 + n)) (hb : ∀ c, c < 6 → (bt S c ↔ 0 < z c)) (hR : R < 2 ^ m) (hsz : ct R 6 + 1 = ct S 6) (hr : ∀ i, i < 3 → bt R i → i < m ∧ bt mask i ∧ exE E i z = 0) (hq : ∃ q, q < ct S 6 ∧ cof (GG E S R) q ≠ 0) :
    cand n m mask E sn S R ∧ ∀ c c', c < 6 → c' < 6 → z c * ryv E S R c' = z c' * ryv E S R c := by
  have h64 := pow6 n hn
  have h8 := pow3 m hm
  have hS' : S < 64 := by omega
  have hR' : R < 8 := by omega
  have h3 : ct R 6 ≤ 3 := by rw [← ct_m m hm R hR]; exact Nat.le_trans (ct_le R m) hm
  have h4 : ct S 6 ≤ 4 := by omega
  have hz0 : ∀ c, c < 6 → ¬ bt S c → z c = 0 := fun c hc hn => by
    have := h.1 c hc
    have := (hb c hc).mpr
    by_cases e : 0 < z c
    · exact absurd (this e) hn
    · omega
  have hpar := par_cof hS' hR' hsz h4 (y := z) hz0 (fun i hi hbi => (hr i hi hbi).2.2)
  have hray := ray_par hS' hR' hsz h4 (y := z) hz0 (fun i hi hbi => (hr i hi hbi).2.2)
  have hyy : ∀ p, p < ct S 6 → 0 < yy S z p := fun p hp => by
    unfold yy
    rw [if_pos hp]
    obtain ⟨a, b, -⟩ := pl_ok hS' hp
    exact (hb _ a).mp b
  obtain ⟨q, hq1, hq2⟩ := hq
  have y0 := hyy 0 (by omega)
  have yq := hyy q hq1
  have hc0 : cof (GG E S R) 0 ≠ 0 := fun e => by
    have := hpar q 0 (by omega) (by omega)
    rw [e, Int.mul_zero] at this
    rcases Int.mul_eq_zero.mp this.symm with h | h
    · omega
    · exact hq2 h
  have ok : okr E S R := fun p hp => by
    have e := hpar p 0 (by omega) (by omega)
    have yp := hyy p hp
    unfold sg
    by_cases s : cof (GG E S R) 0 < 0
    · rw [if_pos s]
      have l : yy S z p * cof (GG E S R) 0 < 0 := Int.mul_neg_of_pos_of_neg yp s
      rw [e] at l
      have : cof (GG E S R) p < 0 := Int.not_le.mp (fun hge => by
        have := Int.mul_nonneg (Int.le_of_lt y0) hge
        omega)
      omega
    · rw [if_neg s]
      have l : 0 < yy S z p * cof (GG E S R) 0 := Int.mul_pos yp (by omega)
      rw [e] at l
      have : 0 < cof (GG E S R) p := Int.not_le.mp (fun hge => by
        have := Int.mul_nonneg (Int.le_of_lt y0) (show 0 ≤ - cof (GG E S R) p by omega)
        rw [Int.mul_neg] at this
        omega)
      omega
  refine ⟨⟨hS, hR, fun i hi hbi => (hr i hi hbi).2.1, hsz, ok, fun i hi hbi => ?_⟩, hray⟩
  obtain ⟨a0, b0, -⟩ := pl_ok hS' (show 0 < ct S 6 by omega)
  refine fit_scale (x := exE E i z) (a := ryv E S R (pl S 0)) (b := z (pl S 0)) (ray_pos ok a0 b0) ((hb _ a0).mp b0) ?_ (h.2.2.1 i hi hbi)
  exact exE_scale (fun c hc => by rw [hray c _ hc a0, Int.mul_comm])
/-! small matrices whose kernel is along a vector above 0 -/
def mn (f : Nat → Nat → Int) (a b q r : Nat) : Int := f a q * f b r - f a r * f b q
def KER (s : Nat) (f : Nat → Nat → Int) : Prop := ∀ u : Nat → Int, (∀ q, s ≤ q → u q = 0) → (∀ i, i < 3 → f i 0 * u 0 + f i 1 * u 1 + f i 2 * u 2 + f i 3 * u 3 = 0) → ∀ q', q' < s → u q' = 0 → ∀ q, q < s → u q = 0
theorem ker_d {s : Nat} (hs : 2 ≤ s) {f : Nat → Nat → Int} (H : KER s f) (h0 : ∀ a, a < 3 → f a 0 = 0) : False := by
  have := H (fun k => if k = 0 then 1 else 0) (fun q hq => if_neg (by omega)) (fun i hi => by rw [h0 i hi]; simp) 1 (by omega) rfl 0 (by omega)
  simp at this
theorem ker_c {s : Nat} (hs : 3 ≤ s) {f : Nat → Nat → Int} (H : KER s f) (hm : ∀ a b, a < 3 → b < 3 → mn f a b 0 1 = 0) : False := by
  refine ker_d (by omega) H (fun a ha => ?_)
  have := H (fun k => if k = 0 then f a 1 else if k = 1 then - f a 0 else 0) (fun q hq => by show (if q = 0 then _ else if q = 1 then _ else _) = _; rw [if_neg (by omega), if_neg (by omega)]) (fun i hi => by
    have := hm a i ha hi
    unfold mn at this
    simp
    grind) 2 (by omega) rfl 1 (by omega)
  simp at this
  exact this
theorem mn_swap (f : Nat → Nat → Int) (a b q r : Nat) : mn f b a q r = - mn f a b q r := by unfold mn; grind
theorem mn_same (f : Nat → Nat → Int) (a q r : Nat) : mn f a a q r = 0 := by unfold mn; grind
set_option maxHeartbeats 1000000 in
theorem ker_b {f : Nat → Nat → Int} (H : KER 4 f) (hd : d3 f 0 1 2 = 0) : False := by
  have go : ∀ a b, a < 3 → b < 3 → (∀ i, i < 3 → f i 0 * mn f a b 1 2 + f i 1 * (- mn f a b 0 2) + f i 2 * mn f a b 0 1 = 0) → mn f a b 0 1 = 0 := by
    intro a b ha hb h
    have := H (fun k => if k = 0 then mn f a b 1 2 else if k = 1 then - mn f a b 0 2 else if k = 2 then mn f a b 0 1 else 0) (fun q hq => by show (if q = 0 then _ else if q = 1 then _ else if q = 2 then _ else _) = _; rw [if_neg (by omega), if_neg (by omega), if_neg (by omega)]) (fun i hi => by
      have := h i hi
      simp
      omega) 3 (by omega) rfl 2 (by omega)
    simpa using this
  have m01 : mn f 0 1 0 1 = 0 := go 0 1 (by decide) (by decide) (fun i hi => by
    unfold d3 at hd; unfold mn
    rcases lt3 hi with rfl | rfl | rfl <;> grind)
  have m02 : mn f 0 2 0 1 = 0 := go 0 2 (by decide) (by decide) (fun i hi => by
    unfold d3 at hd; unfold mn
    rcases lt3 hi with rfl | rfl | rfl <;> grind)
  have m12 : mn f 1 2 0 1 = 0 := go 1 2 (by decide) (by decide) (fun i hi => by
    unfold d3 at hd; unfold mn
    rcases lt3 hi with rfl | rfl | rfl <;> grind)
  refine ker_c (by omega) H (fun a b ha hb => ?_)
  rcases lt3 ha with rfl | rfl | rfl <;> rcases lt3 hb with rfl | rfl | rfl
  · exact mn_same _ _ _ _
  · exact m01
  · exact m02
  · rw [mn_swap, m01]; rfl
  · exact mn_same _ _ _ _
  · exact m12
  · rw [mn_swap, m02]; rfl
  · rw [mn_swap, m12]; rfl
  · exact mn_same _ _ _ _
