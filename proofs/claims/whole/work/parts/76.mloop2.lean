section Mp
variable {M : Mm} {n w f : Nat} {cc : Nat → Int} {kd kv : Int}
theorem mexc_loop {N i k : Nat} {a : Nat → Nat → Int} (h : MX M n w f cc kd kv) (hkv : kv ≤ 5015000) (hi : i < 3) (hk : k < f) (ha : ∀ j, j < n → (M.2.1 6 (4 * i + j)).toInt = a i j ∧ ab (a i j) ≤ 9) : ∀ (d j fuel : Nat) (x : Int64), j + d = n → d < fuel → ab x.toInt ≤ 2 ^ 40 + j * 2 ^ 40 →
    ∃ y : Int64, lpT (fun _ _ _ _ _ => none) (F_X3_excess_15 N) fuel (nI i) (nI k) x (nI j) M = some (y, M) ∧ y.toInt = x.toInt + (sm (fun j => a i j * MA M k j) n - sm (fun j => a i j * MA M k j) j) := by
  have hf := h.2.2.2.2.2.1
  have hn := h.1
  have hnw := h.2.1
  intro d
  induction d with
  | zero =>
    intro j fuel x hj hfu hb
    obtain ⟨z, rfl, -⟩ := fuel_s hfu
    refine ⟨x, ?_, ?_⟩
    · rw [lp_s]
      generalize lpT (fun _ _ _ _ _ => none) (F_X3_excess_15 N) z = q
      unfold F_X3_excess_15
      rw [h.2.2.2.1, if_pos ((nI_leI (by omega) (by omega)).mpr (by omega))]
    · rw [show j = n by omega]; omega
  | succ d ih =>
    intro j fuel x hj hfu hb
    obtain ⟨z, rfl, hz⟩ := fuel_s hfu
    obtain ⟨-, -, hA, -⟩ := h.2.2.2.2.2.2.2 k hk
    obtain ⟨e1, e2⟩ := ha j (by omega)
    have hAj := hA j (by omega)
    have b1 := mulle e2 (ab_le.mpr (show -5015000 ≤ MA M k j ∧ MA M k j ≤ 5015000 by omega))
    have hb' := ab_le.mp hb
    have m1 : ((Int32.toInt64 (M.2.1 6 (4 * i + j))) * M.2.2 2 (5 * k + j)).toInt = a i j * MA M k j := by
      have e0 : (Int32.toInt64 (M.2.1 6 (4 * i + j))).toInt = a i j := by rw [Kit.i64_of_i32, e1]
      rw [Kit.i64_mul (by rw [e0]; unfold MA at b1; omega) (by rw [e0]; unfold MA at b1; omega), e0]
      rfl
    have m2 : (x + (Int32.toInt64 (M.2.1 6 (4 * i + j))) * M.2.2 2 (5 * k + j)).toInt = x.toInt + a i j * MA M k j := by
      rw [Kit.i64_add (by rw [m1]; omega) (by rw [m1]; omega), m1]
    obtain ⟨y, i1, i2⟩ := ih (j + 1) z (x + (Int32.toInt64 (M.2.1 6 (4 * i + j))) * M.2.2 2 (5 * k + j)) (by omega) hz (by rw [m2]; exact ab_le.mpr ⟨by omega, by omega⟩)
    refine ⟨y, ?_, ?_⟩
    · rw [← i1, lp_s]
      generalize lpT (fun _ _ _ _ _ => none) (F_X3_excess_15 N) z = q
      unfold F_X3_excess_15
      rw [h.2.2.2.1, if_neg (fun q => by have := (nI_leI (by omega) (by omega)).mp q; omega), ix4, rA_i (by rw [lnA6]; omega), Option.bind_some, ix5, rM2 (by omega) (by omega), Option.bind_some, nI_1]
    · rw [i2, m2]
      have : sm (fun j => a i j * MA M k j) (j + 1) = sm (fun j => a i j * MA M k j) j + a i j * MA M k j := rfl
      omega
theorem mexc {N i k : Nat} {a : Nat → Nat → Int} (hN : 10 ≤ N) (h : MX M n w f cc kd kv) (hkd : kd ≤ 5015000) (hkv : kv ≤ 5015000) (hi : i < 3) (hk : k < f) (ha : ∀ j, j < n → (M.2.1 6 (4 * i + j)).toInt = a i j ∧ ab (a i j) ≤ 9) (x : Int32) (hx : ab x.toInt ≤ 50) :
    ∃ y : Int64, f_X3_excess N (nI i) (nI k) x M = some (y, M) ∧ y.toInt = - x.toInt * MB M k + sm (fun j => a i j * MA M k j) n := by
  have hf := h.2.2.2.2.2.1
  have hn := h.1
  obtain ⟨d1, d2, -⟩ := h.2.2.2.2.2.2.2 k hk
  have hx' := ab_le.mp hx
  have en : (Int32.toInt64 (-x)).toInt = - x.toInt := by rw [Kit.i64_of_i32, Kit.i32_neg (by omega)]
  have b1 := mulle (ab_le.mpr (show -50 ≤ - x.toInt ∧ - x.toInt ≤ 50 by omega)) (ab_le.mpr (show -5015000 ≤ MB M k ∧ MB M k ≤ 5015000 by omega))
  have m1 : ((Int32.toInt64 (-x)) * M.2.2 3 k).toInt = - x.toInt * MB M k := by
    rw [Kit.i64_mul (by rw [en]; unfold MB at b1; omega) (by rw [en]; unfold MB at b1; omega), en]
    rfl
  obtain ⟨y, i1, i2⟩ := mexc_loop (N := N) h hkv hi hk ha n 0 N ((Int32.toInt64 (-x)) * M.2.2 3 k) (by omega) (by omega) (by rw [m1]; exact ab_le.mpr ⟨by omega, by omega⟩)
  refine ⟨y, ?_, ?_⟩
  · unfold f_X3_excess b_X3_excess_0
    rw [rM3 (by omega), Option.bind_some]
    exact i1
  · rw [i2, m1]
    have : sm (fun j => a i j * MA M k j) 0 = 0 := rfl
    omega
def EXm (M : Mm) (n : Nat) (a : Nat → Nat → Int) (i k : Nat) (r : Int) : Int := - r * MB M k + sm (fun j => a i j * MA M k j) n
theorem lnA7' {i : Nat} (hi : i < 3) : i < lnA 7 := by rw [lnA7]; exact hi
theorem tight0_loop {N i t : Nat} {a : Nat → Nat → Int} {b : Nat → Int} (hN : 10 ≤ N) (h : MX M n w f cc 4374 802400) (hi : i < 3) (ht : t < f) (ha : ∀ j, j < n → (M.2.1 6 (4 * i + j)).toInt = a i j ∧ ab (a i j) ≤ 9) (hb : (M.2.1 7 i).toInt = b i ∧ ab (b i) ≤ 50) :
    ∀ (d k fuel : Nat) (x3 : Int32), k + d = f → d < fuel → (x3 = 0 ∨ x3 = 1) →
    ∃ r, lpT (fun _ _ _ _ _ => none) (F_X3_tight_53 N) fuel (nI i) (nI t) x3 (nI k) M = ((f_X3_everyRow N M).bind fun x => (f_X3_collect N x.1 1 x.2).bind fun M146 => b_X3_tight_152 N (nI i) r 0 M146) ∧ (r = 0 ∨ r = 1) ∧ (r = 1 ↔ x3 = 1 ∧ ∀ k', k ≤ k' → k' < f → MW M k' * MB M t = MW M t * MB M k' → EXm M n a i k' (b i) = 0) := by
  have hf := h.2.2.2.2.2.1
  intro d
  induction d with
  | zero =>
    intro k fuel x3 hk hfu hx
    obtain ⟨x, rfl, -⟩ := fuel_s hfu
    refine ⟨x3, ?_, hx, ⟨fun q => ⟨q, fun k' a b _ => by omega⟩, fun q => q.1⟩⟩
    rw [lp_s]
    generalize lpT (fun _ _ _ _ _ => none) (F_X3_tight_53 N) x = q
    unfold F_X3_tight_53
    rw [h.2.2.2.2.1, if_pos ((nI_leI (by omega) (by omega)).mpr (by omega))]
  | succ d ih =>
    intro k fuel x3 hk hfu hx
    obtain ⟨x, rfl, hfx⟩ := fuel_s hfu
    obtain ⟨r1, i1, i2, i3⟩ := ih (k + 1) x 1 (by omega) hfx (Or.inr rfl)
    obtain ⟨r0, j1, j2, j3⟩ := ih (k + 1) x 0 (by omega) hfx (Or.inl rfl)
    have hr0 : ¬ r0 = 1 := fun q => absurd (j3.mp q).1 (by decide)
    have hkf : k < f := by omega
    have b1 := mulle (h.Wb hkf) (h.D ht)
    have b2 := mulle (h.Wb ht) (h.D hkf)
    obtain ⟨y, y1, y2⟩ := mexc (N := N) hN h (by decide) (by decide) hi hkf ha (M.2.1 7 i) (by rw [hb.1]; exact hb.2)
    rw [hb.1] at y2
    have cont : (MW M k * MB M t = MW M t * MB M k → EXm M n a i k (b i) = 0) → (r1 = 1 ↔ (1 : Int32) = 1 ∧ ∀ k', k ≤ k' → k' < f → MW M k' * MB M t = MW M t * MB M k' → EXm M n a i k' (b i) = 0) := fun hk0 => i3.trans ⟨fun ⟨_, H⟩ => ⟨rfl, fun k' p q e => by
      by_cases ek : k' = k
      · rw [ek] at e ⊢; exact hk0 e
      · exact H k' (by omega) q e⟩, fun ⟨_, H⟩ => ⟨rfl, fun k' p q e => H k' (by omega) q e⟩⟩
    rw [lp_s]
    generalize lpT (fun _ _ _ _ _ => none) (F_X3_tight_53 N) x = q at i1 j1 ⊢
    unfold F_X3_tight_53
    rw [h.2.2.2.2.1, if_neg (fun q => by have := (nI_leI (by omega) (by omega)).mp q; omega), rM4 (by omega), Option.bind_some, rM3 (by omega), Option.bind_some, rM4 (by omega), Option.bind_some, rM3 (by omega), Option.bind_some, mcmp (by unfold MW MB at b1; omega) (by unfold MW MB at b2; omega), Option.bind_some]
    dsimp only
    show ∃ r, (if cmpI (MW M k * MB M t) (MW M t * MB M k) = 0 then _ else _) = _ ∧ _
    rcases hx with rfl | rfl
    · have z : ∀ s0, b_X3_tight_99 N q (nI i) (nI t) 0 (nI k) s0 M = q (nI i) (nI t) 0 (nI (k + 1)) M := fun s0 => by
        unfold b_X3_tight_99
        rw [if_pos rfl, nI_1]
      rw [z, z, ite_self]
      exact ⟨r0, j1, j2, ⟨fun q => absurd q hr0, fun q => absurd q.1 (by decide)⟩⟩
    · by_cases e : MW M k * MB M t = MW M t * MB M k
      · rw [if_pos (cmpI_0.mpr e)]
        unfold b_X3_tight_99
        rw [if_neg (by decide), if_neg (by decide), rA_i (lnA7' hi), Option.bind_some, y1, Option.bind_some]
        dsimp only
        rw [nI_1]
        by_cases e0 : EXm M n a i k (b i) = 0
        · rw [if_pos (cmp_eq.mpr (by rw [y2, l0]; exact e0))]
          exact ⟨r1, i1, i2, cont (fun _ => e0)⟩
        · rw [if_neg (fun q => e0 (by have := cmp_eq.mp q; rw [y2, l0] at this; exact this))]
          exact ⟨r0, j1, j2, ⟨fun q => absurd q hr0, fun q => absurd (q.2 k (Nat.le_refl _) hkf e) e0⟩⟩
      · rw [if_neg (fun q => e (cmpI_0.mp q))]
        unfold b_X3_tight_99
        rw [if_neg (by decide), if_pos rfl, nI_1]
        exact ⟨r1, i1, i2, cont (fun q => absurd q e)⟩
theorem tight1_loop {N i : Nat} {a : Nat → Nat → Int} (hN : 10 ≤ N) (h : MX M n w f cc kd kv) (hkd : kd ≤ 5015000) (hkv : kv ≤ 5015000) (hi : i < 3) (ha : ∀ j, j < n → (M.2.1 6 (4 * i + j)).toInt = a i j ∧ ab (a i j) ≤ 9) :
    ∀ (d k fuel : Nat) (x3 : Int32), k + d = f → d < fuel → (x3 = 0 ∨ x3 = 1) →
    ∃ r, lpT (fun _ _ _ _ => none) (F_X3_tight_152 N) fuel (nI i) x3 (nI k) M = some (r, M) ∧ (r = 0 ∨ r = 1) ∧ (r = 1 ↔ x3 = 1 ∧ ∀ k', k ≤ k' → k' < f → MW M k' = 0 → EXm M n a i k' 0 = 0) := by
  have hf := h.2.2.2.2.2.1
  intro d
  induction d with
  | zero =>
    intro k fuel x3 hk hfu hx
    obtain ⟨x, rfl, -⟩ := fuel_s hfu
    refine ⟨x3, ?_, hx, ⟨fun q => ⟨q, fun k' a b _ => by omega⟩, fun q => q.1⟩⟩
    rw [lp_s]
    generalize lpT (fun _ _ _ _ => none) (F_X3_tight_152 N) x = q
    unfold F_X3_tight_152
    rw [h.2.2.2.2.1, if_pos ((nI_leI (by omega) (by omega)).mpr (by omega)), if_pos hx]
  | succ d ih =>
    intro k fuel x3 hk hfu hx
    obtain ⟨x, rfl, hfx⟩ := fuel_s hfu
    obtain ⟨r1, i1, i2, i3⟩ := ih (k + 1) x 1 (by omega) hfx (Or.inr rfl)
    obtain ⟨r0, j1, j2, j3⟩ := ih (k + 1) x 0 (by omega) hfx (Or.inl rfl)
    have hr0 : ¬ r0 = 1 := fun q => absurd (j3.mp q).1 (by decide)
    have hkf : k < f := by omega
    obtain ⟨y, y1, y2⟩ := mexc (N := N) hN h hkd hkv hi hkf ha 0 (by decide)
    have y2' : y.toInt = EXm M n a i k 0 := y2
    have cont : (MW M k = 0 → EXm M n a i k 0 = 0) → (r1 = 1 ↔ (1 : Int32) = 1 ∧ ∀ k', k ≤ k' → k' < f → MW M k' = 0 → EXm M n a i k' 0 = 0) := fun hk0 => i3.trans ⟨fun ⟨_, H⟩ => ⟨rfl, fun k' p q e => by
      by_cases ek : k' = k
      · rw [ek] at e ⊢; exact hk0 e
      · exact H k' (by omega) q e⟩, fun ⟨_, H⟩ => ⟨rfl, fun k' p q e => H k' (by omega) q e⟩⟩
    rw [lp_s]
    generalize lpT (fun _ _ _ _ => none) (F_X3_tight_152 N) x = q at i1 j1 ⊢
    unfold F_X3_tight_152
    rw [h.2.2.2.2.1, if_neg (fun q => by have := (nI_leI (by omega) (by omega)).mp q; omega)]
    rcases hx with rfl | rfl
    · rw [if_pos rfl, nI_1]
      exact ⟨r0, j1, j2, ⟨fun q => absurd q hr0, fun q => absurd q.1 (by decide)⟩⟩
    · rw [if_neg (by decide), rM4 (by omega), Option.bind_some]
      by_cases e : MW M k = 0
      · rw [if_pos (cmp_eq.mpr (by rw [l0]; exact e)), y1, Option.bind_some]
        dsimp only
        rw [nI_1]
        by_cases e0 : EXm M n a i k 0 = 0
        · rw [if_pos (cmp_eq.mpr (by rw [y2', l0]; exact e0))]
          exact ⟨r1, i1, i2, cont (fun _ => e0)⟩
        · rw [if_neg (fun q => e0 (by have := cmp_eq.mp q; rw [y2', l0] at this; exact this))]
          exact ⟨r0, j1, j2, ⟨fun q => absurd q hr0, fun q => absurd (q.2 k (Nat.le_refl _) hkf e) e0⟩⟩
      · rw [if_neg (fun q => e (by have := cmp_eq.mp q; rw [l0] at this; exact this)), nI_1]
        exact ⟨r1, i1, i2, cont (fun q => absurd q e)⟩
/-! times -/
theorem mlat {N : Nat} (h : MX M n w f cc 4374 802400) (hw : n < w) {k l : Nat} (hk : k < f) (hl : l < f) : f_X3_later N (nI k) (nI l) M = some (cmpI (MA M k n * MB M l) (MA M l n * MB M k), M) := by
  have hf := h.2.2.2.2.2.1
  have hn := h.1
  have b1 := mulle (h.A hk (j := n) hw) (h.D hl)
  have b2 := mulle (h.A hl (j := n) hw) (h.D hk)
  unfold f_X3_later b_X3_later_0
  rw [h.2.2.2.1, ix5, rM2 (by omega) (by omega), Option.bind_some, rM3 (by omega), Option.bind_some, ix5, rM2 (by omega) (by omega), Option.bind_some, rM3 (by omega), Option.bind_some, mcmp (by unfold MA MB at b1; omega) (by unfold MA MB at b2; omega), Option.bind_some]
  rfl
def kEm (n : Nat) (M : Mm) (k j : Nat) : Int := if j = 0 then MA M k n else - MW M k
def ltEm (n : Nat) (M : Mm) (k l : Nat) : Prop := LX (kEm n M k) (dBm M k) (kEm n M l) (dBm M l) 2 0
def latm (n : Nat) (M : Mm) (k l : Nat) : Prop := MA M l n * MB M k < MA M k n * MB M l
def kSm (n : Nat) (M : Mm) (p k j : Nat) : Int := if j = 0 then - (MW M k * MB M p - MW M p * MB M k) else - MA M k n
def dSm (n : Nat) (M : Mm) (p k j : Nat) : Int := if j = 0 then MA M k n * MB M p - MA M p n * MB M k else MB M k
def ltSm (n : Nat) (M : Mm) (p k l : Nat) : Prop := LX (kSm n M p k) (dSm n M p k) (kSm n M p l) (dSm n M p l) 2 0
theorem mstp {N : Nat} (h : MX M n w f cc 4374 802400) (hw : n < w) (ht : ∀ k, k < f → MA M k n ≤ MB M k) {p k l : Nat} (hp : p < f) (hk : k < f) (hl : l < f) : ∃ r, f_X3_steeper N (nI p) (nI k) (nI l) M = some (r, M) ∧ (r = 0 ∨ r = 1) ∧ (r = 1 ↔ ltSm n M p k l) := by
  have hf := h.2.2.2.2.2.1
  have hn := h.1
  have tA : ∀ k, k < f → 0 ≤ MA M k n ∧ MA M k n ≤ 4374 := fun k hk => by
    have h1 := ((h.2.2.2.2.2.2.2 k hk).2.2.1 n hw).1
    have h2 := ht k hk
    have h3 := (h.2.2.2.2.2.2.2 k hk).2.1
    exact ⟨h1, by omega⟩
  have rise : ∀ k, k < f → (M.2.2 4 k * M.2.2 3 p - M.2.2 4 p * M.2.2 3 k).toInt = MW M k * MB M p - MW M p * MB M k ∧ ab (MW M k * MB M p - MW M p * MB M k) ≤ 252698227200 := fun k hk => by
    have b1 := mulle (h.Wb hk) (h.D hp)
    have b2 := mulle (h.Wb hp) (h.D hk)
    have e1 : (M.2.2 4 k * M.2.2 3 p).toInt = MW M k * MB M p := Kit.i64_mul (by unfold MW MB at b1; omega) (by unfold MW MB at b1; omega)
    have e2 : (M.2.2 4 p * M.2.2 3 k).toInt = MW M p * MB M k := Kit.i64_mul (by unfold MW MB at b2; omega) (by unfold MW MB at b2; omega)
    refine ⟨?_, ab_le.mpr ⟨by omega, by omega⟩⟩
    rw [Kit.i64_sub (by rw [e1, e2]; omega) (by rw [e1, e2]; omega), e1, e2]
  have run : ∀ k, k < f → (M.2.2 2 (5 * k + n) * M.2.2 3 p - M.2.2 2 (5 * p + n) * M.2.2 3 k).toInt = MA M k n * MB M p - MA M p n * MB M k ∧ ab (MA M k n * MB M p - MA M p n * MB M k) ≤ 19131876 := fun k hk => by
    have t1 := tA k hk
    have t2 := tA p hp
    have d1 := (h.2.2.2.2.2.2.2 k hk).1
    have d2 := (h.2.2.2.2.2.2.2 p hp).1
    have b1 := mulle (ab_le.mpr (show -4374 ≤ MA M k n ∧ MA M k n ≤ 4374 by omega)) (h.D hp)
    have b2 := mulle (ab_le.mpr (show -4374 ≤ MA M p n ∧ MA M p n ≤ 4374 by omega)) (h.D hk)
    have n1 := Int.mul_nonneg t1.1 (Int.le_of_lt d2)
    have n2 := Int.mul_nonneg t2.1 (Int.le_of_lt d1)
    have e1 : (M.2.2 2 (5 * k + n) * M.2.2 3 p).toInt = MA M k n * MB M p := Kit.i64_mul (by unfold MA MB at b1; omega) (by unfold MA MB at b1; omega)
    have e2 : (M.2.2 2 (5 * p + n) * M.2.2 3 k).toInt = MA M p n * MB M k := Kit.i64_mul (by unfold MA MB at b2; omega) (by unfold MA MB at b2; omega)
    refine ⟨?_, ab_le.mpr ⟨by omega, by omega⟩⟩
    rw [Kit.i64_sub (by rw [e1, e2]; omega) (by rw [e1, e2]; omega), e1, e2]
  obtain ⟨a1, a2⟩ := rise k hk
  obtain ⟨b1, b2⟩ := run k hk
  obtain ⟨c1, c2⟩ := rise l hl
  obtain ⟨d1, d2⟩ := run l hl
  have m1 := mulle a2 d2
  have m2 := mulle c2 b2
  have hL : ltSm n M p k l ↔ ((MW M l * MB M p - MW M p * MB M l) * (MA M k n * MB M p - MA M p n * MB M k) < (MW M k * MB M p - MW M p * MB M k) * (MA M l n * MB M p - MA M p n * MB M l) ∨ ((MW M k * MB M p - MW M p * MB M k) * (MA M l n * MB M p - MA M p n * MB M l) = (MW M l * MB M p - MW M p * MB M l) * (MA M k n * MB M p - MA M p n * MB M k) ∧ MA M l n * MB M k < MA M k n * MB M l)) := by
    have e1 : kSm n M p k 0 * dSm n M p l 0 = - ((MW M k * MB M p - MW M p * MB M k) * (MA M l n * MB M p - MA M p n * MB M l)) := Int.neg_mul _ _
    have e2 : kSm n M p l 0 * dSm n M p k 0 = - ((MW M l * MB M p - MW M p * MB M l) * (MA M k n * MB M p - MA M p n * MB M k)) := Int.neg_mul _ _
    have e3 : kSm n M p k 1 * dSm n M p l 1 = - (MA M k n * MB M l) := Int.neg_mul _ _
    have e4 : kSm n M p l 1 * dSm n M p k 1 = - (MA M l n * MB M k) := Int.neg_mul _ _
    unfold ltSm
    constructor
    · intro q
      rcases q with q | ⟨q, q'⟩
      · exact Or.inl (by omega)
      · rcases q' with q' | ⟨-, q'⟩
        · have : kSm n M p k 1 * dSm n M p l 1 < kSm n M p l 1 * dSm n M p k 1 := q'
          exact Or.inr ⟨by omega, by omega⟩
        · exact q'.elim
    · intro q
      rcases q with q | ⟨q, q'⟩
      · exact Or.inl (by omega)
      · refine Or.inr ⟨by omega, Or.inl ?_⟩
        show kSm n M p k 1 * dSm n M p l 1 < kSm n M p l 1 * dSm n M p k 1
        omega
  unfold f_X3_steeper b_X3_steeper_0
  rw [h.2.2.2.1, rM4 (by omega), Option.bind_some, rM3 (by omega), Option.bind_some, rM4 (by omega), Option.bind_some, rM3 (by omega), Option.bind_some, ix5, rM2 (by omega) (by omega), Option.bind_some, Option.bind_some, ix5, rM2 (by omega) (by omega), Option.bind_some, Option.bind_some, rM4 (by omega), Option.bind_some, Option.bind_some, Option.bind_some, rM3 (by omega), Option.bind_some, ix5, rM2 (by omega) (by omega), Option.bind_some, Option.bind_some, Option.bind_some, Option.bind_some, mcmp (by rw [a1, d1]; omega) (by rw [c1, b1]; omega), Option.bind_some]
  dsimp only
  rw [a1, b1, c1, d1]
  by_cases g : (MW M l * MB M p - MW M p * MB M l) * (MA M k n * MB M p - MA M p n * MB M k) < (MW M k * MB M p - MW M p * MB M k) * (MA M l n * MB M p - MA M p n * MB M l)
  · rw [if_pos (cmpI_gt.mpr g)]
    exact ⟨1, rfl, Or.inr rfl, ⟨fun _ => hL.mpr (Or.inl g), fun _ => rfl⟩⟩
  · rw [if_neg (fun q => g (cmpI_gt.mp q))]
    by_cases e : (MW M k * MB M p - MW M p * MB M k) * (MA M l n * MB M p - MA M p n * MB M l) = (MW M l * MB M p - MW M p * MB M l) * (MA M k n * MB M p - MA M p n * MB M k)
    · rw [if_pos (cmpI_0.mpr e), mlat h hw hk hl, Option.bind_some]
      dsimp only
      by_cases t : MA M k n * MB M l ≤ MA M l n * MB M k
      · rw [if_pos (cmpI_le.mpr t)]
        refine ⟨0, rfl, Or.inl rfl, ⟨fun q => absurd q (by decide), fun q => ?_⟩⟩
        rcases hL.mp q with q | ⟨-, q⟩
        · exact absurd q g
        · omega
      · rw [if_neg (fun q => t (cmpI_le.mp q))]
        exact ⟨1, rfl, Or.inr rfl, ⟨fun _ => hL.mpr (Or.inr ⟨e, by omega⟩), fun _ => rfl⟩⟩
    · rw [if_neg (fun q => e (cmpI_0.mp q))]
      refine ⟨0, rfl, Or.inl rfl, ⟨fun q => absurd q (by decide), fun q => ?_⟩⟩
      rcases hL.mp q with q | ⟨q, -⟩
      · exact absurd q g
      · exact absurd q e
end Mp
