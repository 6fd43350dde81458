/-! THE CLASS'S RAYS AND THE REFERENCE'S LIST say the same -/
theorem XX_cg {n : Nat} (hn : n ≤ 4) {y z : Nat → Int} (h : ∀ c, c < 6 → y c = z c) (j : Nat) : XX n y j = XX n z j := by
  unfold XX
  split
  · exact h _ (by omega)
  · exact h _ (by decide)
theorem DD_cg {x2 : Int32} {n : Nat} (hn : n ≤ 4) {y z : Nat → Int} (h : ∀ c, c < 6 → y c = z c) : DD x2 n y = DD x2 n z := by
  unfold DD
  rw [h 0 (by decide), h 1 (by decide), sm_congr (fun j hj => h (2 + j) (by omega))]
theorem VV_cg {x2 : Int32} {n : Nat} {y z : Nat → Int} (h : ∀ c, c < 6 → y c = z c) (hV : VV x2 n y) : VV x2 n z :=
  ⟨fun c h1 h2 => by rw [← h c h2]; exact hV.1 c h1 h2, fun e => by rw [← h 1 (by decide)]; exact hV.2.1 e, fun e => by rw [← h 0 (by decide), ← h 1 (by decide)]; exact hV.2.2 e⟩
section Cp
variable {M : Mm} {n m mask cn w f : Nat} {a : Nat → Nat → Int} {b e cc : Nat → Int} {sn : Nat → Int32} {x2 : Int32}
theorem mx_of (hZ : PZ n m a b e cc) (hx : (x2 = 2 ∧ w = n + 1) ∨ ((x2 = 0 ∨ x2 = 1) ∧ w = n)) (h4 : M.1 4 = nI n) (h9 : M.1 9 = nI f) (hf : f ≤ 126) (h : MLS M x2 n m mask a b e cc sn w f) : MX M n w f cc (Kd x2) (Kv x2) := by
  have hn := hZ.2.1
  have hw : n ≤ w ∧ w ≤ 5 := by rcases x2c hx with ⟨-, h⟩ | ⟨-, h⟩ | ⟨-, h⟩ <;> omega
  refine ⟨hn, hw.1, hw.2, h4, h9, hf, fun j hj => hZ.2.2.2.2.2.2 j (by omega), fun k hk => ?_⟩
  obtain ⟨v, d, h1, h2, h3, h5, -⟩ := h.1 k hk
  obtain ⟨q1, q2, q3⟩ := h1
  have eA : ∀ j, j < w → MA M k j = v j := q2
  have eD : MB M k = d := q1
  refine ⟨by rw [eD]; exact h2, by rw [eD]; exact h3, fun j hj => by rw [eA j hj]; exact h5 j hj, ?_⟩
  refine Eq.trans q3 (sm_congr (fun j hj => ?_))
  rw [eA j (by omega)]
theorem lk (hZ : PZ n m a b e cc) (hR : RLS M n m mask (Eof a b e) sn (2 ^ (2 + n)) 0 cn) (h : MLS M x2 n m mask a b e cc sn w f) :
    (∀ g, g < cn → VV x2 n (RY M g) → 0 < DD x2 n (RY M g) → ∃ k, k < f ∧ ∀ j, j < w → XX n (RY M g) j * MB M k = MA M k j * DD x2 n (RY M g)) ∧
    ∀ k, k < f → ∃ g, g < cn ∧ VV x2 n (RY M g) ∧ 0 < DD x2 n (RY M g) ∧ ∀ j, j < w → XX n (RY M g) j * MB M k = MA M k j * DD x2 n (RY M g) := by
  have hn := hZ.2.1
  constructor
  · intro g hg hV hD
    obtain ⟨S, R, hc, hr⟩ := hR.1 g hg
    have hr' : ∀ c, c < 6 → RY M g c = ryv (Eof a b e) S R c := hr
    obtain ⟨k, hk, v, d, q1, q2, q3⟩ := h.2 S R hc (VV_cg hr' hV) (by rw [← DD_cg hn hr']; exact hD)
    refine ⟨k, hk, fun j hj => ?_⟩
    rw [XX_cg hn hr', DD_cg hn hr', show MB M k = d from q1.1, show MA M k j = v j from q1.2.1 j hj]
    exact q3 j hj
  · intro k hk
    obtain ⟨v, d, q1, q2, q3, q4, q5, S, R, hc, hV, hD, hs⟩ := h.1 k hk
    obtain ⟨g, hg, hr⟩ := hR.2 S R (Or.inl hc.1) hc
    have hr' : ∀ c, c < 6 → ryv (Eof a b e) S R c = RY M g c := fun c hc => (hr c hc).symm
    refine ⟨g, hg, VV_cg hr' hV, by rw [← DD_cg hn hr']; exact hD, fun j hj => ?_⟩
    rw [← XX_cg hn hr', ← DD_cg hn hr', show MB M k = d from q1.1, show MA M k j = v j from q1.2.1 j hj]
    exact hs j hj
theorem lk0 (hZ : PZ n m a b e cc) (hF : RF M n cn) (hR : RLS M n m mask (Eof a b e) sn (2 ^ (2 + n)) 0 cn) (h : MLS M 0 n m mask a b e cc sn n f) :
    (∀ g, g < cn → isP M g → ∃ k, k < f ∧ ∀ j, j < n → RY M g (2 + j) * MB M k = MA M k j * RY M g 0) ∧ ∀ k, k < f → ∃ g, g < cn ∧ isP M g ∧ ∀ j, j < n → RY M g (2 + j) * MB M k = MA M k j * RY M g 0 := by
  obtain ⟨l1, l2⟩ := lk hZ hR h
  have eX : ∀ g j, j < n → XX n (RY M g) j = RY M g (2 + j) := fun g j hj => by unfold XX; rw [if_pos hj]
  constructor
  · intro g hg hp
    obtain ⟨k, hk, q⟩ := l1 g hg ⟨(hF g hg).2.2.2.1, fun _ => hp.2, fun q => absurd q (by decide)⟩ hp.1
    exact ⟨k, hk, fun j hj => by rw [← eX g j hj]; exact q j hj⟩
  · intro k hk
    obtain ⟨g, hg, hV, hD, q⟩ := l2 k hk
    exact ⟨g, hg, ⟨hD, hV.2.1 rfl⟩, fun j hj => by rw [← eX g j hj]; exact q j hj⟩
def SG (n : Nat) (M : Mm) (g : Nat) : Int := sm (fun j => RY M g (2 + j)) n
theorem lk1 (hZ : PZ n m a b e cc) (hF : RF M n cn) (hR : RLS M n m mask (Eof a b e) sn (2 ^ (2 + n)) 0 cn) (h : MLS M 1 n m mask a b e cc sn n f) :
    (∀ g, g < cn → isD M g → 0 < SG n M g ∧ ∃ k, k < f ∧ ∀ j, j < n → RY M g (2 + j) * MB M k = MA M k j * SG n M g) ∧ ∀ k, k < f → ∃ g, g < cn ∧ isD M g ∧ 0 < SG n M g ∧ ∀ j, j < n → RY M g (2 + j) * MB M k = MA M k j * SG n M g := by
  obtain ⟨l1, l2⟩ := lk hZ hR h
  have eX : ∀ g j, j < n → XX n (RY M g) j = RY M g (2 + j) := fun g j hj => by unfold XX; rw [if_pos hj]
  constructor
  · intro g hg hp
    have hs := (hF g hg).2.2.2.2 hp.1 hp.2
    obtain ⟨k, hk, q⟩ := l1 g hg ⟨(hF g hg).2.2.2.1, fun q => absurd q (by decide), fun _ => hp⟩ hs
    exact ⟨hs, k, hk, fun j hj => by rw [← eX g j hj]; exact q j hj⟩
  · intro k hk
    obtain ⟨g, hg, hV, hD, q⟩ := l2 k hk
    exact ⟨g, hg, hV.2.2 rfl, hD, fun j hj => by rw [← eX g j hj]; exact q j hj⟩
theorem lk2 (hZ : PZ n m a b e cc) (hF : RF M n cn) (hR : RLS M n m mask (Eof a b e) sn (2 ^ (2 + n)) 0 cn) (h : MLS M 2 n m mask a b e cc sn (n + 1) f) :
    (∀ g, g < cn → isM M g → ∃ k, k < f ∧ (∀ j, j < n → RY M g (2 + j) * MB M k = MA M k j * DT M g) ∧ RY M g 1 * MB M k = MA M k n * DT M g) ∧ ∀ k, k < f → ∃ g, g < cn ∧ isM M g ∧ (∀ j, j < n → RY M g (2 + j) * MB M k = MA M k j * DT M g) ∧ RY M g 1 * MB M k = MA M k n * DT M g := by
  obtain ⟨l1, l2⟩ := lk hZ hR h
  have eX : ∀ g j, j < n → XX n (RY M g) j = RY M g (2 + j) := fun g j hj => by unfold XX; rw [if_pos hj]
  have eN : ∀ g, XX n (RY M g) n = RY M g 1 := fun g => by unfold XX; rw [if_neg (by omega)]
  constructor
  · intro g hg hp
    obtain ⟨k, hk, q⟩ := l1 g hg ⟨(hF g hg).2.2.2.1, fun q => absurd q (by decide), fun q => absurd q (by decide)⟩ hp
    exact ⟨k, hk, fun j hj => by rw [← eX g j hj]; exact q j (by omega), by rw [← eN g]; exact q n (by omega)⟩
  · intro k hk
    obtain ⟨g, hg, hV, hD, q⟩ := l2 k hk
    exact ⟨g, hg, hD, fun j hj => by rw [← eX g j hj]; exact q j (by omega), by rw [← eN g]; exact q n (by omega)⟩
theorem w_same {g k : Nat} {D : Int} {kd kv : Int} (hX : MX M n w f cc kd kv) (hk : k < f) (h : ∀ j, j < n → RY M g (2 + j) * MB M k = MA M k j * D) : WR cc n M g * MB M k = MW M k * D := by
  rw [(hX.2.2.2.2.2.2.2 k hk).2.2.2]
  unfold WR
  rw [Int.mul_comm _ (MB M k), Int.mul_comm _ D, ← sm_mul, ← sm_mul]
  exact sm_congr (fun j hj => by have := h j hj; grind)
theorem pos_same {x y p q : Int} (hp : 0 < p) (hq : 0 < q) (h : x * p = y * q) : 0 < x ↔ 0 < y := by
  constructor
  · intro hx
    have h1 := Int.mul_pos hx hp
    exact Int.not_le.mp (fun hle => by
      have := Int.mul_nonneg (show 0 ≤ - y by omega) (Int.le_of_lt hq)
      rw [Int.neg_mul] at this
      omega)
  · intro hy
    have h1 := Int.mul_pos hy hq
    exact Int.not_le.mp (fun hle => by
      have := Int.mul_nonneg (show 0 ≤ - x by omega) (Int.le_of_lt hp)
      rw [Int.neg_mul] at this
      omega)
theorem zer_same {x y p q : Int} (hp : 0 < p) (hq : 0 < q) (h : x * p = y * q) : x = 0 ↔ y = 0 := by
  constructor
  · intro hx
    rw [hx, Int.zero_mul] at h
    rcases Int.mul_eq_zero.mp h.symm with h | h
    · exact h
    · omega
  · intro hy
    rw [hy, Int.zero_mul] at h
    rcases Int.mul_eq_zero.mp h with h | h
    · exact h
    · omega
/-- the best point -/
theorem c_best (hZ : PZ n m a b e cc) (hF : RF M n cn) (hR : RLS M n m mask (Eof a b e) sn (2 ^ (2 + n)) 0 cn) (h : MLS M 0 n m mask a b e cc sn n f) (hX : MX M n n f cc 4374 802400) {t g0 : Nat} (hg : g0 < cn) (hP : isP M g0) (lg : ∀ g, g < cn → isP M g → ¬ ltB cc n M g g0) (ht : t < f) (lt : ∀ k, k < f → ¬ ltBm n M k t) :
    WR cc n M g0 * MB M t = MW M t * RY M g0 0 ∧ ∀ j, j < n → RY M g0 (2 + j) * MB M t = MA M t j * RY M g0 0 := by
  obtain ⟨l1, l2⟩ := lk0 hZ hF hR h
  have mk : ∀ g k, k < f → (∀ j, j < n → RY M g (2 + j) * MB M k = MA M k j * RY M g 0) → EQ (kB cc n M g) (dB M g) (kBm M k) (dBm M k) (n + 1) := fun g k hk q j hj => by
    have hw := w_same hX hk q
    show kB cc n M g j * MB M k = kBm M k j * RY M g 0
    unfold kB kBm
    by_cases e0 : j = 0
    · rw [if_pos e0, if_pos e0, Int.neg_mul, Int.neg_mul, hw]
    · rw [if_neg e0, if_neg e0]
      have := q (j - 1) (by omega)
      rw [show 2 + (j - 1) = 1 + j by omega] at this
      exact this
  have E := lx_match (n := n + 1) (P := fun g => g < cn ∧ isP M g) (Q := fun k => k < f) (κ := kB cc n M) (δ := dB M) (κ' := kBm M) (δ' := dBm M) (fun g hg _ _ => hg.2.1) (fun k hk _ _ => (hX.2.2.2.2.2.2.2 k hk).1)
    (fun g hg => by
      obtain ⟨k, hk, q⟩ := l1 g hg.1 hg.2
      exact ⟨k, hk, mk g k hk q⟩)
    (fun k hk => by
      obtain ⟨g, hg, hp, q⟩ := l2 k hk
      exact ⟨g, ⟨hg, hp⟩, mk g k hk q⟩) ⟨hg, hP⟩ ht (fun g hg => lg g hg.1 hg.2) lt
  constructor
  · have := E 0 (by omega)
    have e1 : - WR cc n M g0 * MB M t = - MW M t * RY M g0 0 := this
    rw [Int.neg_mul, Int.neg_mul] at e1
    omega
  · intro j hj
    have := E (j + 1) (by omega)
    have e1 : kB cc n M g0 (j + 1) = RY M g0 (2 + j) := by unfold kB; rw [if_neg (by omega), show 1 + (j + 1) = 2 + j by omega]
    rw [e1] at this
    exact this
/-- the farthest point -/
theorem c_far (hZ : PZ n m a b e cc) (hF : RF M n cn) (hR : RLS M n m mask (Eof a b e) sn (2 ^ (2 + n)) 0 cn) (h : MLS M 0 n m mask a b e cc sn n f) (hX : MX M n n f cc 4374 802400) {j : Nat} (hj : j < n) (x3 : Int32) {t g0 : Nat} (hg : g0 < cn) (hP : isP M g0) (lg : ∀ g, g < cn → isP M g → ¬ ltF M x3 (2 + j) g g0) (ht : t < f) (lt : ∀ k, k < f → ¬ ltFm M x3 j k t) :
    RY M g0 (2 + j) * MB M t = MA M t j * RY M g0 0 := by
  obtain ⟨l1, l2⟩ := lk0 hZ hF hR h
  have mk : ∀ g k, (∀ j, j < n → RY M g (2 + j) * MB M k = MA M k j * RY M g 0) → EQ (kF (x3 ≠ 0) M (2 + j) g) (dB M g) (kFm (x3 ≠ 0) M j k) (dBm M k) 1 := fun g k q i hi => by
    have := q j hj
    show kF (x3 ≠ 0) M (2 + j) g i * MB M k = kFm (x3 ≠ 0) M j k i * RY M g 0
    unfold kF kFm
    split
    · rw [Int.neg_mul, Int.neg_mul, this]
    · exact this
  have E := lx_match (n := 1) (P := fun g => g < cn ∧ isP M g) (Q := fun k => k < f) (κ := kF (x3 ≠ 0) M (2 + j)) (δ := dB M) (κ' := kFm (x3 ≠ 0) M j) (δ' := dBm M) (fun g hg _ _ => hg.2.1) (fun k hk _ _ => (hX.2.2.2.2.2.2.2 k hk).1)
    (fun g hg => by
      obtain ⟨k, hk, q⟩ := l1 g hg.1 hg.2
      exact ⟨k, hk, mk g k q⟩)
    (fun k hk => by
      obtain ⟨g, hg, hp, q⟩ := l2 k hk
      exact ⟨g, ⟨hg, hp⟩, mk g k q⟩) ⟨hg, hP⟩ ht (fun g hg => lg g hg.1 hg.2) lt
  have := E 0 (by omega)
  have e1 : kF (x3 ≠ 0) M (2 + j) g0 0 * MB M t = kFm (x3 ≠ 0) M j t 0 * RY M g0 0 := this
  unfold kF kFm at e1
  split at e1
  · rw [Int.neg_mul, Int.neg_mul] at e1; omega
  · exact e1
/-! the walks -/
def MT (cc : Nat → Int) (n : Nat) (M : Mm) (f g k : Nat) : Prop := isM M g ∧ k < f ∧ RY M g 1 * MB M k = MA M k n * DT M g ∧ WR cc n M g * MB M k = MW M k * DT M g
theorem run_eq {T1 T2 D1 D2 t1 t2 B1 B2 : Int} (h1 : T1 * B1 = t1 * D1) (h2 : T2 * B2 = t2 * D2) : (T1 * D2 - T2 * D1) * (B1 * B2) = (t1 * B2 - t2 * B1) * (D1 * D2) := by grind
theorem MT.late {p k g q : Nat} (hX : MX M n w f cc 4374 802400) (h1 : MT cc n M f g k) (h2 : MT cc n M f p q) : lat M g p ↔ latm n M k q := by
  have e := run_eq h1.2.2.1 h2.2.2.1
  have b1 := (hX.2.2.2.2.2.2.2 k h1.2.1).1
  have b2 := (hX.2.2.2.2.2.2.2 q h2.2.1).1
  have := pos_same (Int.mul_pos b1 b2) (Int.mul_pos h1.1 h2.1) e
  unfold lat latm
  constructor
  · intro q1; have := this.mp (by omega); omega
  · intro q1; have := this.mpr (by omega); omega
theorem MT.key {p k g q : Nat} (hX : MX M n w f cc 4374 802400) (h1 : MT cc n M f g k) (h2 : MT cc n M f p q) : EQ (kS cc n M p g) (dS M p g) (kSm n M q k) (dSm n M q k) 2 := fun j hj => by
  have e1 := run_eq h1.2.2.1 h2.2.2.1
  have e2 := run_eq h1.2.2.2 h2.2.2.2
  have b1 := (hX.2.2.2.2.2.2.2 k h1.2.1).1
  have b2 := (hX.2.2.2.2.2.2.2 q h2.2.1).1
  have bb := Int.mul_pos b1 b2
  by_cases e0 : j = 0
  · subst e0
    show - (WR cc n M g * DT M p - WR cc n M p * DT M g) * (MA M k n * MB M q - MA M q n * MB M k) = - (MW M k * MB M q - MW M q * MB M k) * (RY M g 1 * DT M p - RY M p 1 * DT M g)
    generalize WR cc n M g * DT M p - WR cc n M p * DT M g = x at *
    generalize MA M k n * MB M q - MA M q n * MB M k = y at *
    generalize MW M k * MB M q - MW M q * MB M k = z at *
    generalize RY M g 1 * DT M p - RY M p 1 * DT M g = u at *
    generalize MB M k * MB M q = c at *
    generalize DT M g * DT M p = d at *
    have : c * (- x * y) = c * (- z * u) := by grind
    exact Int.eq_of_mul_eq_mul_left (by omega) this
  · have : j = 1 := by omega
    subst this
    show - RY M g 1 * MB M k = - MA M k n * DT M g
    rw [Int.neg_mul, Int.neg_mul, h1.2.2.1]
theorem MT.back {p k g q : Nat} (hX : MX M n w f cc 4374 802400) (hg : isM M g) (hk : k < f) (h2 : MT cc n M f p q) (hl : latm n M k q) (E : EQ (kS cc n M p g) (dS M p g) (kSm n M q k) (dSm n M q k) 2) : MT cc n M f g k := by
  have t1 : RY M g 1 * MB M k = MA M k n * DT M g := by
    have := E 1 (by omega)
    have e : - RY M g 1 * MB M k = - MA M k n * DT M g := this
    rw [Int.neg_mul, Int.neg_mul] at e
    omega
  have e0 : - (WR cc n M g * DT M p - WR cc n M p * DT M g) * (MA M k n * MB M q - MA M q n * MB M k) = - (MW M k * MB M q - MW M q * MB M k) * (RY M g 1 * DT M p - RY M p 1 * DT M g) := E 0 (by omega)
  have e1 := run_eq t1 h2.2.2.1
  have e3 := h2.2.2.2
  have b1 := (hX.2.2.2.2.2.2.2 k hk).1
  have b2 := (hX.2.2.2.2.2.2.2 q h2.2.1).1
  have hy : 0 < MA M k n * MB M q - MA M q n * MB M k := by unfold latm at hl; omega
  have dp : 0 < DT M p := h2.1
  refine ⟨hg, hk, t1, ?_⟩
  have s1 : (MA M k n * MB M q - MA M q n * MB M k) * ((WR cc n M g * DT M p - WR cc n M p * DT M g) * (MB M k * MB M q)) = (MA M k n * MB M q - MA M q n * MB M k) * ((MW M k * MB M q - MW M q * MB M k) * (DT M g * DT M p)) := by
    generalize WR cc n M g * DT M p - WR cc n M p * DT M g = x at *
    generalize MA M k n * MB M q - MA M q n * MB M k = y at *
    generalize MW M k * MB M q - MW M q * MB M k = z at *
    generalize RY M g 1 * DT M p - RY M p 1 * DT M g = u at *
    generalize MB M k * MB M q = c at *
    generalize DT M g * DT M p = d at *
    grind
  have s2 := Int.eq_of_mul_eq_mul_left (by omega) s1
  have s3 : (DT M p * MB M q) * (WR cc n M g * MB M k) = (DT M p * MB M q) * (MW M k * DT M g) := by grind
  exact Int.eq_of_mul_eq_mul_left (by have := Int.mul_pos dp b2; omega) s3
end Cp
