/-! THE REFERENCE'S QUESTIONS about its list -/
def MA (M : Mm) (k j : Nat) : Int := (M.2.2 2 (5 * k + j)).toInt
def MB (M : Mm) (k : Nat) : Int := (M.2.2 3 k).toInt
def MW (M : Mm) (k : Nat) : Int := (M.2.2 4 k).toInt
def MX (M : Mm) (n w f : Nat) (cc : Nat → Int) (kd kv : Int) : Prop := n ≤ 4 ∧ n ≤ w ∧ w ≤ 5 ∧ M.1 4 = nI n ∧ M.1 9 = nI f ∧ f ≤ 126 ∧ (∀ j, j < n → ab (cc j) ≤ 9) ∧ ∀ k, k < f → 0 < MB M k ∧ MB M k ≤ kd ∧ (∀ j, j < w → 0 ≤ MA M k j ∧ MA M k j ≤ kv) ∧ MW M k = sm (fun j => cc j * MA M k j) n
section Mo
variable {M : Mm} {n w f : Nat} {cc : Nat → Int} {kd kv : Int}
theorem MX.W (h : MX M n w f cc kd kv) {k : Nat} (hk : k < f) (hv : 0 ≤ kv) : ab (MW M k) ≤ 36 * kv := by
  obtain ⟨h1, h2, h3, h4⟩ := h.2.2.2.2.2.2.2 k hk
  rw [h4]
  have s := sm_le (f := fun j => cc j * MA M k j) (B := 9 * kv) (n := n) (fun j hj => by
    have := h3 j (by have := h.2.1; omega)
    exact ab_mul_le (h.2.2.2.2.2.2.1 j hj) (ab_le.mpr ⟨by omega, this.2⟩))
  have hn := h.1
  have s2 := ab_le.mp s
  have : (n : Int) * (9 * kv) ≤ 4 * (9 * kv) := Int.mul_le_mul_of_nonneg_right (by omega) (by omega)
  exact ab_le.mpr ⟨by omega, by omega⟩
theorem rM2 {k j : Nat} (hk : k < 126) (hj : j < 5) : rL M 2 (nI (5 * k + j)) = some (M.2.2 2 (5 * k + j)) := rL_i (by rw [lnL2]; omega)
theorem rM3 {k : Nat} (hk : k < 126) : rL M 3 (nI k) = some (M.2.2 3 k) := rL_i (by rw [lnL3]; omega)
theorem rM4 {k : Nat} (hk : k < 126) : rL M 4 (nI k) = some (M.2.2 4 k) := rL_i (by rw [lnL4]; omega)
def kBm (M : Mm) (k j : Nat) : Int := if j = 0 then - MW M k else MA M k (j - 1)
def dBm (M : Mm) (k _j : Nat) : Int := MB M k
def ltBm (n : Nat) (M : Mm) (k l : Nat) : Prop := LX (kBm M k) (dBm M k) (kBm M l) (dBm M l) (n + 1) 0
theorem MX.D (h : MX M n w f cc 4374 802400) {k : Nat} (hk : k < f) : ab (MB M k) ≤ 4374 := by
  obtain ⟨h1, h2, -⟩ := h.2.2.2.2.2.2.2 k hk
  exact ab_le.mpr ⟨by omega, by omega⟩
theorem MX.A (h : MX M n w f cc 4374 802400) {k j : Nat} (hk : k < f) (hj : j < w) : ab (MA M k j) ≤ 802400 := by
  obtain ⟨-, -, h3, -⟩ := h.2.2.2.2.2.2.2 k hk
  have := h3 j hj
  exact ab_le.mpr ⟨by omega, by omega⟩
theorem MX.Wb (h : MX M n w f cc 4374 802400) {k : Nat} (hk : k < f) : ab (MW M k) ≤ 28886400 := h.W hk (by decide)
theorem bett_loop {N : Nat} (h : MX M n w f cc 4374 802400) {k l : Nat} (hk : k < f) (hl : l < f) : ∀ (d j fuel : Nat) (x3 : Int32), j + d = n → d < fuel →
    ∃ r, lpT (fun _ _ _ _ _ => none) (F_X3_better_31 N) fuel (nI k) (nI l) x3 (nI j) M = some (r, M) ∧ (r = 0 ∨ r = 1) ∧ (r = 1 ↔ 0 < x3 ∨ (x3 = 0 ∧ LX (kBm M k) (dBm M k) (kBm M l) (dBm M l) d (j + 1))) := by
  have hn := h.1
  have hnw := h.2.1
  have hf := h.2.2.2.2.2.1
  have endd : ∀ x3 : Int32, ∃ r, b_X3_better_88 N x3 M = some (r, M) ∧ (r = 0 ∨ r = 1) ∧ (r = 1 ↔ 0 < x3) := fun x3 => by
    unfold b_X3_better_88
    by_cases e : x3 ≤ 0
    · exact ⟨0, if_pos e, Or.inl rfl, ⟨fun q => absurd q (by decide), fun q => absurd q (Int32.not_lt.mpr e)⟩⟩
    · exact ⟨1, if_neg e, Or.inr rfl, ⟨fun _ => Int32.not_le.mp e, fun _ => rfl⟩⟩
  intro d
  induction d with
  | zero =>
    intro j fuel x3 hj hfu
    obtain ⟨x, rfl, -⟩ := fuel_s hfu
    obtain ⟨r, r1, r2, r3⟩ := endd x3
    refine ⟨r, ?_, r2, r3.trans ⟨fun q => Or.inl q, fun q => ?_⟩⟩
    · rw [lp_s]
      generalize lpT (fun _ _ _ _ _ => none) (F_X3_better_31 N) x = q
      unfold F_X3_better_31
      rw [h.2.2.2.1, if_pos ((nI_leI (by omega) (by omega)).mpr (by omega))]
      exact r1
    · rcases q with q | ⟨-, q⟩
      · exact q
      · exact q.elim
  | succ d ih =>
    intro j fuel x3 hj hfu
    obtain ⟨x, rfl, hx⟩ := fuel_s hfu
    by_cases e : x3 = 0
    · obtain ⟨r, i1, i2, i3⟩ := ih (j + 1) x (cmpI (MA M l j * MB M k) (MA M k j * MB M l)) (by omega) hx
      have b1 := mulle (h.A hl (j := j) (by omega)) (h.D hk)
      have b2 := mulle (h.A hk (j := j) (by omega)) (h.D hl)
      refine ⟨r, ?_, i2, i3.trans ?_⟩
      · rw [lp_s]
        generalize lpT (fun _ _ _ _ _ => none) (F_X3_better_31 N) x = q at i1 ⊢
        unfold F_X3_better_31
        rw [h.2.2.2.1, if_neg (fun q => by have := (nI_leI (by omega) (by omega)).mp q; omega), if_pos e, ix5, rM2 (by omega) (by omega), Option.bind_some, rM3 (by omega), Option.bind_some, ix5, rM2 (by omega) (by omega), Option.bind_some, rM3 (by omega), Option.bind_some, mcmp (by unfold MA MB at b1; omega) (by unfold MA MB at b2; omega), Option.bind_some]
        dsimp only
        rw [nI_1]
        exact i1
      · have kj : ∀ k, kBm M k (j + 1) = MA M k j := fun k => rfl
        rw [cmpI_gt, cmpI_0]
        constructor
        · intro q
          refine Or.inr ⟨e, ?_⟩
          rcases q with q | ⟨q, q'⟩
          · exact Or.inl q
          · exact Or.inr ⟨q.symm, q'⟩
        · intro q
          rcases q with q | ⟨-, q⟩
          · rw [e] at q; exact absurd q (by decide)
          · rcases q with q | ⟨q, q'⟩
            · exact Or.inl q
            · exact Or.inr ⟨q.symm, q'⟩
    · obtain ⟨r, r1, r2, r3⟩ := endd x3
      refine ⟨r, ?_, r2, r3.trans ⟨fun q => Or.inl q, fun q => ?_⟩⟩
      · rw [lp_s]
        generalize lpT (fun _ _ _ _ _ => none) (F_X3_better_31 N) x = q
        unfold F_X3_better_31
        rw [h.2.2.2.1, if_neg (fun q => by have := (nI_leI (by omega) (by omega)).mp q; omega), if_neg e]
        exact r1
      · rcases q with q | ⟨q, -⟩
        · exact q
        · exact absurd q e
theorem bett {N : Nat} (hN : 10 ≤ N) (h : MX M n w f cc 4374 802400) {k l : Nat} (hk : k < f) (hl : l < f) : ∃ r, f_X3_better N (nI k) (nI l) M = some (r, M) ∧ (r = 0 ∨ r = 1) ∧ (r = 1 ↔ ltBm n M k l) := by
  have hn := h.1
  have hf := h.2.2.2.2.2.1
  have b1 := mulle (h.Wb hk) (h.D hl)
  have b2 := mulle (h.Wb hl) (h.D hk)
  obtain ⟨r, i1, i2, i3⟩ := bett_loop (N := N) h hk hl n 0 N (cmpI (MW M k * MB M l) (MW M l * MB M k)) (by omega) (by omega)
  refine ⟨r, ?_, i2, i3.trans ?_⟩
  · unfold f_X3_better b_X3_better_0
    rw [rM4 (by omega), Option.bind_some, rM3 (by omega), Option.bind_some, rM4 (by omega), Option.bind_some, rM3 (by omega), Option.bind_some, mcmp (by unfold MW MB at b1; omega) (by unfold MW MB at b2; omega), Option.bind_some]
    exact i1
  · rw [cmpI_gt, cmpI_0]
    have e1 : kBm M k 0 * dBm M l 0 = - (MW M k * MB M l) := Int.neg_mul _ _
    have e2 : kBm M l 0 * dBm M k 0 = - (MW M l * MB M k) := Int.neg_mul _ _
    unfold ltBm
    constructor
    · intro q
      rcases q with q | ⟨q, q'⟩
      · exact Or.inl (by omega)
      · exact Or.inr ⟨by omega, q'⟩
    · intro q
      rcases q with q | ⟨q, q'⟩
      · exact Or.inl (by omega)
      · exact Or.inr ⟨by omega, q'⟩
theorem mbest_loop {N : Nat} (hN : 10 ≤ N) (h : MX M n w f cc 4374 802400) : ∀ (d k at_ fuel : Nat), k + d = f → d < fuel → at_ < f → AM (fun k => k < f) (ltBm n M) at_ k →
    ∃ a, lpT (fun _ _ _ => none) (F_X3_best_4 N) fuel (nI at_) (nI k) M = some (nI a, M) ∧ a < f ∧ AM (fun k => k < f) (ltBm n M) a f := by
  have hf := h.2.2.2.2.2.1
  have po : ∀ k, k < f → PO (dBm M k) (n + 1) := fun k hk _ _ => (h.2.2.2.2.2.2.2 k hk).1
  have tr : ∀ a b c, a < f → b < f → c < f → ltBm n M a b → ltBm n M b c → ltBm n M a c := fun a b c pa pb pc x y => lx_tr (n := n + 1) (po a pa) (po b pb) (po c pc) (n + 1) 0 (by omega) x y
  have ir : ∀ g, ¬ ltBm n M g g := fun g => lx_ir (n + 1) 0
  intro d
  induction d with
  | zero =>
    intro k at_ fuel hk hfu ha hA
    obtain ⟨x, rfl, -⟩ := fuel_s hfu
    refine ⟨at_, ?_, ha, by rw [show k = f by omega] at hA; exact hA⟩
    rw [lp_s]
    generalize lpT (fun _ _ _ => none) (F_X3_best_4 N) x = q
    unfold F_X3_best_4
    rw [h.2.2.2.2.1, if_pos ((nI_leI (by omega) (by omega)).mpr (by omega))]
  | succ d ih =>
    intro k at_ fuel hk hfu ha hA
    obtain ⟨x, rfl, hx⟩ := fuel_s hfu
    have hkf : k < f := by omega
    have step : ∀ at', at' < f → AM (fun k => k < f) (ltBm n M) at' (k + 1) → ∃ a, lpT (fun _ _ _ => none) (F_X3_best_4 N) x (nI at') (nI (k + 1)) M = some (nI a, M) ∧ a < f ∧ AM (fun k => k < f) (ltBm n M) a f := fun at' h1 h2 => ih (k + 1) at' x (by omega) hx h1 h2
    obtain ⟨r, r1, r2, r3⟩ := bett hN h hkf ha
    rw [lp_s]
    generalize lpT (fun _ _ _ => none) (F_X3_best_4 N) x = q at step ⊢
    unfold F_X3_best_4
    rw [h.2.2.2.2.1, if_neg (fun q => by have := (nI_leI (by omega) (by omega)).mp q; omega), r1, Option.bind_some]
    dsimp only
    rw [nI_1]
    rcases r2 with rfl | rfl
    · rw [if_pos rfl]
      exact step at_ ha (hA.keep ha (fun q => absurd (r3.mpr q) (by decide)))
    · rw [if_neg (by decide)]
      exact step k hkf (hA.take ir tr ha hkf (r3.mp rfl))
theorem mbest {N : Nat} (hN : 200 ≤ N) (h : MX M n w f cc 4374 802400) (h1 : 0 < f) : ∃ a, f_X3_best N M = some (nI a, M) ∧ a < f ∧ ∀ k, k < f → ¬ ltBm n M k a := by
  have hf := h.2.2.2.2.2.1
  obtain ⟨a, a1, a2, a3⟩ := mbest_loop (N := N) (by omega) h (f - 1) 1 0 N (by omega) (by omega) h1 (AM.one (fun g => lx_ir (n + 1) 0))
  exact ⟨a, a1, a2, fun k hk => (a3.fin ⟨0, h1, h1⟩).2 k hk hk⟩
/-- farthest in one variable -/
def kFm (high : Prop) [Decidable high] (M : Mm) (c k _j : Nat) : Int := if high then - MA M k c else MA M k c
def ltFm (M : Mm) (x2 : Int32) (c g k : Nat) : Prop := LX (kFm (x2 ≠ 0) M c g) (dBm M g) (kFm (x2 ≠ 0) M c k) (dBm M k) 1 0
theorem mrange_loop {N j : Nat} (h : MX M n w f cc 4374 802400) (hj : j < n) (x2 x3 : Int32) : ∀ (d k at_ fuel : Nat), k + d = f → d < fuel → at_ < f → AM (fun k => k < f) (ltFm M x2 j) at_ k →
    ∃ a, lpT (fun _ _ _ _ _ _ => none) (F_X3_range_88 N) fuel (nI j) x2 x3 (nI at_) (nI k) M = ((f_X3_told N (M.2.2 2 (5 * a + j)) (M.2.2 3 a) x3 M).bind fun x => some (x.1, x.2)) ∧ a < f ∧ AM (fun k => k < f) (ltFm M x2 j) a f := by
  have hf := h.2.2.2.2.2.1
  have hn := h.1
  have hnw := h.2.1
  have po : ∀ k, k < f → PO (dBm M k) 1 := fun k hk _ _ => (h.2.2.2.2.2.2.2 k hk).1
  have tr : ∀ a b c, a < f → b < f → c < f → ltFm M x2 j a b → ltFm M x2 j b c → ltFm M x2 j a c := fun a b c pa pb pc x y => lx_tr (n := 1) (po a pa) (po b pb) (po c pc) 1 0 (by omega) x y
  have ir : ∀ g, ¬ ltFm M x2 j g g := fun g => lx_ir 1 0
  intro d
  induction d with
  | zero =>
    intro k at_ fuel hk hfu ha hA
    obtain ⟨x, rfl, -⟩ := fuel_s hfu
    refine ⟨at_, ?_, ha, by rw [show k = f by omega] at hA; exact hA⟩
    rw [lp_s]
    generalize lpT (fun _ _ _ _ _ _ => none) (F_X3_range_88 N) x = q
    unfold F_X3_range_88
    rw [h.2.2.2.2.1, if_pos ((nI_leI (by omega) (by omega)).mpr (by omega)), ix5, rM2 (by omega) (by omega), Option.bind_some, rM3 (by omega), Option.bind_some]
  | succ d ih =>
    intro k at_ fuel hk hfu ha hA
    obtain ⟨x, rfl, hx⟩ := fuel_s hfu
    have hkf : k < f := by omega
    have step : ∀ at', at' < f → AM (fun k => k < f) (ltFm M x2 j) at' (k + 1) → ∃ a, lpT (fun _ _ _ _ _ _ => none) (F_X3_range_88 N) x (nI j) x2 x3 (nI at') (nI (k + 1)) M = ((f_X3_told N (M.2.2 2 (5 * a + j)) (M.2.2 3 a) x3 M).bind fun x => some (x.1, x.2)) ∧ a < f ∧ AM (fun k => k < f) (ltFm M x2 j) a f := fun at' h1 h2 => ih (k + 1) at' x (by omega) hx h1 h2
    have b1 := mulle (h.A hkf (j := j) (by omega)) (h.D ha)
    have b2 := mulle (h.A ha (j := j) (by omega)) (h.D hkf)
    have hL : ltFm M x2 j k at_ ↔ kFm (x2 ≠ 0) M j k 0 * MB M at_ < kFm (x2 ≠ 0) M j at_ 0 * MB M k := ⟨fun q => by
      rcases q with q | ⟨-, q⟩
      · exact q
      · exact q.elim, fun q => Or.inl q⟩
    rw [lp_s]
    generalize lpT (fun _ _ _ _ _ _ => none) (F_X3_range_88 N) x = q at step ⊢
    unfold F_X3_range_88
    rw [h.2.2.2.2.1, if_neg (fun q => by have := (nI_leI (by omega) (by omega)).mp q; omega), ix5, rM2 (by omega) (by omega), Option.bind_some, rM3 (by omega), Option.bind_some, ix5, rM2 (by omega) (by omega), Option.bind_some, rM3 (by omega), Option.bind_some, mcmp (by unfold MA MB at b1; omega) (by unfold MA MB at b2; omega), Option.bind_some]
    dsimp only
    rw [nI_1]
    show ∃ a, (if x2 = 0 then (if 0 ≤ cmpI (MA M k j * MB M at_) (MA M at_ j * MB M k) then _ else _) else (if cmpI (MA M k j * MB M at_) (MA M at_ j * MB M k) ≤ 0 then _ else _)) = _ ∧ _
    by_cases e : x2 = 0
    · rw [if_pos e]
      have k1 : ∀ g, kFm (x2 ≠ 0) M j g 0 = MA M g j := fun g => if_neg (fun q => q e)
      rw [k1, k1] at hL
      by_cases l : MA M at_ j * MB M k ≤ MA M k j * MB M at_
      · rw [if_pos (cmpI_ge.mpr l)]
        exact step at_ ha (hA.keep ha (fun q => by have := hL.mp q; omega))
      · rw [if_neg (fun q => l (cmpI_ge.mp q))]
        exact step k hkf (hA.take ir tr ha hkf (hL.mpr (by omega)))
    · rw [if_neg e]
      have k1 : ∀ g, kFm (x2 ≠ 0) M j g 0 = - MA M g j := fun g => if_pos e
      rw [k1, k1, Int.neg_mul, Int.neg_mul] at hL
      by_cases l : MA M k j * MB M at_ ≤ MA M at_ j * MB M k
      · rw [if_pos (cmpI_le.mpr l)]
        exact step at_ ha (hA.keep ha (fun q => by have := hL.mp q; omega))
      · rw [if_neg (fun q => l (cmpI_le.mp q))]
        exact step k hkf (hA.take ir tr ha hkf (hL.mpr (by omega)))
theorem grows_loop {N : Nat} (h : MX M n w f cc kd kv) : ∀ (d k fuel : Nat) (x1 : Int32), k + d = f → d < fuel → (x1 = 0 ∨ x1 = 1) →
    ∃ r, lpT (fun _ _ _ => none) (F_X3_grows_13 N) fuel x1 (nI k) M = some (r, M) ∧ (r = 0 ∨ r = 1) ∧ (r = 1 ↔ x1 = 1 ∨ ∃ k', k ≤ k' ∧ k' < f ∧ 0 < MW M k') := by
  have hf := h.2.2.2.2.2.1
  intro d
  induction d with
  | zero =>
    intro k fuel x1 hk hfu hx
    obtain ⟨x, rfl, -⟩ := fuel_s hfu
    refine ⟨x1, ?_, hx, ⟨fun q => Or.inl q, fun q => ?_⟩⟩
    · rw [lp_s]
      generalize lpT (fun _ _ _ => none) (F_X3_grows_13 N) x = q
      unfold F_X3_grows_13
      rw [h.2.2.2.2.1, if_pos ((nI_leI (by omega) (by omega)).mpr (by omega)), if_pos hx]
    · rcases q with q | ⟨k', a, b, -⟩
      · exact q
      · omega
  | succ d ih =>
    intro k fuel x1 hk hfu hx
    obtain ⟨x, rfl, hfx⟩ := fuel_s hfu
    obtain ⟨r1, i1, i2, i3⟩ := ih (k + 1) x 1 (by omega) hfx (Or.inr rfl)
    obtain ⟨r0, j1, j2, j3⟩ := ih (k + 1) x 0 (by omega) hfx (Or.inl rfl)
    have hr1 : r1 = 1 := i3.mpr (Or.inl rfl)
    rw [lp_s]
    generalize lpT (fun _ _ _ => none) (F_X3_grows_13 N) x = q at i1 j1 ⊢
    unfold F_X3_grows_13
    rw [h.2.2.2.2.1, if_neg (fun q => by have := (nI_leI (by omega) (by omega)).mp q; omega)]
    rcases hx with rfl | rfl
    · rw [if_pos rfl, rM4 (by omega), Option.bind_some]
      by_cases l : MW M k ≤ 0
      · rw [if_pos (cmp_le.mpr (by rw [l0]; exact l)), nI_1]
        refine ⟨r0, j1, j2, j3.trans ⟨fun q => ?_, fun q => ?_⟩⟩
        · rcases q with q | ⟨k', a, b, c⟩
          · exact Or.inl q
          · exact Or.inr ⟨k', by omega, b, c⟩
        · rcases q with q | ⟨k', a, b, c⟩
          · exact Or.inl q
          · refine Or.inr ⟨k', ?_, b, c⟩
            by_cases e : k' = k
            · rw [e] at c; omega
            · omega
      · rw [if_neg (fun q => l (by have := cmp_le.mp q; rw [l0] at this; exact this)), nI_1]
        exact ⟨r1, i1, i2, ⟨fun _ => Or.inr ⟨k, Nat.le_refl _, by omega, by omega⟩, fun _ => hr1⟩⟩
    · rw [if_neg (by decide), nI_1]
      exact ⟨r1, i1, i2, ⟨fun _ => Or.inl rfl, fun _ => hr1⟩⟩
theorem endl_loop {N j : Nat} (h : MX M n w f cc kd kv) (hj : j < n) : ∀ (d k fuel : Nat) (x1 : Int32), k + d = f → d < fuel → (x1 = 0 ∨ x1 = 1) →
    ∃ r, lpT (fun _ _ _ _ => none) (F_X3_endless_13 N) fuel (nI j) x1 (nI k) M = some (r, M) ∧ (r = 0 ∨ r = 1) ∧ (r = 1 ↔ x1 = 1 ∨ ∃ k', k ≤ k' ∧ k' < f ∧ 0 < MA M k' j) := by
  have hf := h.2.2.2.2.2.1
  have hn := h.1
  intro d
  induction d with
  | zero =>
    intro k fuel x1 hk hfu hx
    obtain ⟨x, rfl, -⟩ := fuel_s hfu
    refine ⟨x1, ?_, hx, ⟨fun q => Or.inl q, fun q => ?_⟩⟩
    · rw [lp_s]
      generalize lpT (fun _ _ _ _ => none) (F_X3_endless_13 N) x = q
      unfold F_X3_endless_13
      rw [h.2.2.2.2.1, if_pos ((nI_leI (by omega) (by omega)).mpr (by omega)), if_pos hx]
    · rcases q with q | ⟨k', a, b, -⟩
      · exact q
      · omega
  | succ d ih =>
    intro k fuel x1 hk hfu hx
    obtain ⟨x, rfl, hfx⟩ := fuel_s hfu
    obtain ⟨r1, i1, i2, i3⟩ := ih (k + 1) x 1 (by omega) hfx (Or.inr rfl)
    obtain ⟨r0, j1, j2, j3⟩ := ih (k + 1) x 0 (by omega) hfx (Or.inl rfl)
    have hr1 : r1 = 1 := i3.mpr (Or.inl rfl)
    rw [lp_s]
    generalize lpT (fun _ _ _ _ => none) (F_X3_endless_13 N) x = q at i1 j1 ⊢
    unfold F_X3_endless_13
    rw [h.2.2.2.2.1, if_neg (fun q => by have := (nI_leI (by omega) (by omega)).mp q; omega)]
    rcases hx with rfl | rfl
    · rw [if_pos rfl, ix5, rM2 (by omega) (by omega), Option.bind_some]
      by_cases l : MA M k j ≤ 0
      · rw [if_pos (cmp_le.mpr (by rw [l0]; exact l)), nI_1]
        refine ⟨r0, j1, j2, j3.trans ⟨fun q => ?_, fun q => ?_⟩⟩
        · rcases q with q | ⟨k', a, b, c⟩
          · exact Or.inl q
          · exact Or.inr ⟨k', by omega, b, c⟩
        · rcases q with q | ⟨k', a, b, c⟩
          · exact Or.inl q
          · refine Or.inr ⟨k', ?_, b, c⟩
            by_cases e : k' = k
            · rw [e] at c; omega
            · omega
      · rw [if_neg (fun q => l (by have := cmp_le.mp q; rw [l0] at this; exact this)), nI_1]
        exact ⟨r1, i1, i2, ⟨fun _ => Or.inr ⟨k, Nat.le_refl _, by omega, by omega⟩, fun _ => hr1⟩⟩
    · rw [if_neg (by decide), nI_1]
      exact ⟨r1, i1, i2, ⟨fun _ => Or.inl rfl, fun _ => hr1⟩⟩
end Mo
