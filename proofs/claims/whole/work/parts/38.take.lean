/-! THE REFERENCE: take -/
set_option maxHeartbeats 1000000 in
theorem tk_in {N w n f : Nat} (hw5 : w ≤ 5) (hn4 : n ≤ 4) (hf : f < 130) {x4 : Int64} (hx : x4 = 1 ∨ x4 = -1) (vv cc : Nat → Int) (hcc : ∀ j, j < n → ab (cc j) ≤ 9) (hvv : ∀ j, ab (vv j) ≤ 2 ^ 40) :
    ∀ (d j fuel : Nat) (M : Mm), j + d = 5 → d < fuel → M.1 7 = nI w → M.1 9 = nI f → M.1 4 = nI n → (∀ j, j < n → (M.2.1 8 j).toInt = cc j) → (∀ j, j < w → x4.toInt * (M.2.2 1 (6 * j + w)).toInt = vv j) → (∀ j, w ≤ j → vv j = 0) → ab (M.2.2 4 f).toInt ≤ j * 2 ^ 50 →
    ∃ M', lpT (fun _ _ _ => none) (F_X3_take_62 N) fuel x4 (nI j) M = b_X3_take_173 N 1 0 M' ∧ M'.1 = M.1 ∧ M'.2.1 = M.2.1 ∧ (∀ k, k ≠ 2 → k ≠ 4 → M'.2.2 k = M.2.2 k) ∧ (∀ i, i < 5 * f + j ∨ 5 * f + 5 ≤ i → M'.2.2 2 i = M.2.2 2 i) ∧ (∀ j', j ≤ j' → j' < 5 → (M'.2.2 2 (5 * f + j')).toInt = vv j') ∧ (∀ i, i ≠ f → M'.2.2 4 i = M.2.2 4 i) ∧ (M'.2.2 4 f).toInt = (M.2.2 4 f).toInt + (sm (fun j => if j < n then cc j * vv j else 0) 5 - sm (fun j => if j < n then cc j * vv j else 0) j) := by
  intro d
  induction d with
  | zero =>
    intro j fuel M hj hfu hw hfd hn hc hv hv0 hb
    obtain ⟨g, rfl, -⟩ := fuel_s hfu
    have hj5 : j = 5 := by omega
    subst hj5
    refine ⟨M, ?_, rfl, rfl, fun _ _ _ => rfl, fun _ _ => rfl, fun j' h1 h2 => by omega, fun _ _ => rfl, by omega⟩
    rw [lp_s]
    generalize lpT (fun _ _ _ => none) (F_X3_take_62 N) g = k
    unfold F_X3_take_62
    rw [if_pos (by decide)]
  | succ d ih =>
    intro j fuel M hj hfu hw hfd hn hc hv hv0 hb
    obtain ⟨g, rfl, hg⟩ := fuel_s hfu
    obtain ⟨s0, hs0⟩ : ∃ s0 : Int64, s0 = if j < w then x4 * M.2.2 1 (6 * j + w) else 0 := ⟨_, rfl⟩
    have hs0v : s0.toInt = vv j := by
      rw [hs0]
      by_cases h : j < w
      · rw [if_pos h]
        have e := hv j h
        have b := ab_le.mp (hvv j)
        rw [← e] at b
        rw [Kit.i64_mul (by omega) (by omega)]
        exact e
      · rw [if_neg h, hv0 j (by omega)]; exact l0
    obtain ⟨ad, had⟩ : ∃ ad : Int64, ad = if j < n then (M.2.1 8 j).toInt64 * s0 else 0 := ⟨_, rfl⟩
    have hadv : ad.toInt = if j < n then cc j * vv j else 0 := by
      rw [had]
      by_cases h : j < n
      · rw [if_pos h, if_pos h]
        have b := mulle (hcc j h) (hvv j)
        rw [Kit.i64_mul (by rw [Kit.i64_of_i32, hc j h, hs0v]; omega) (by rw [Kit.i64_of_i32, hc j h, hs0v]; omega), Kit.i64_of_i32, hc j h, hs0v]
      · rw [if_neg h, if_neg h]; exact l0
    have hadb : ab ad.toInt ≤ 9 * 2 ^ 40 := by
      rw [hadv]
      by_cases h : j < n
      · rw [if_pos h]; exact ab_mul_le (hcc j h) (hvv j)
      · rw [if_neg h]; decide
    have hsum : (M.2.2 4 f + ad).toInt = (M.2.2 4 f).toInt + ad.toInt := by
      have b1 := ab_le.mp hb
      have b2 := ab_le.mp hadb
      rw [Kit.i64_add (by omega) (by omega)]
    obtain ⟨M', h1, h2, h3, h4, h5, h6, h7, h8⟩ := ih (j + 1) g (sL (sL M 2 (5 * f + j) s0) 4 f (M.2.2 4 f + ad)) (by omega) (by omega) hw hfd hn hc
      (fun j' hj' => by
        have : (sL (sL M 2 (5 * f + j) s0) 4 f (M.2.2 4 f + ad)).2.2 1 = M.2.2 1 := (sL_ne (by decide)).trans (sL_ne (by decide))
        rw [this]; exact hv j' hj')
      hv0 (by
        rw [sL_at, if_pos ⟨rfl, rfl⟩, hsum]
        have b1 := ab_le.mp hb
        have b2 := ab_le.mp hadb
        apply ab_le.mpr
        omega)
    refine ⟨M', ?_, h2, h3, fun k k1 k2 => ?_, fun i hi => ?_, fun j' q1 q2 => ?_, fun i hi => ?_, ?_⟩
    · rw [← h1, lp_s]
      generalize lpT (fun _ _ _ => none) (F_X3_take_62 N) g = k
      have e112 : b_X3_take_112 N k x4 (nI j) s0 (nI (5 * f + j)) M = k x4 (nI (j + 1)) (sL (sL M 2 (5 * f + j) s0) 4 f (M.2.2 4 f + ad)) := by
        have q4 : (sL M 2 (5 * f + j) s0).2.2 4 = M.2.2 4 := sL_ne (by decide)
        unfold b_X3_take_112
        rw [wL_i (by rw [lnL2]; omega), Option.bind_some]
        show (rL (sL M 2 (5 * f + j) s0) 4 (M.1 9)).bind _ = _
        rw [hfd, rL_i (by rw [lnL4]; omega), Option.bind_some, q4]
        show (if M.1 4 ≤ nI j then (wL (sL M 2 (5 * f + j) s0) 4 (M.1 9) (M.2.2 4 f + 0)).bind _ else (rA (sL M 2 (5 * f + j) s0) 8 (nI j)).bind fun v138 => (rL (sL M 2 (5 * f + j) s0) 2 (5 * M.1 9 + nI j)).bind _) = _
        rw [hn, hfd]
        by_cases hjn : j < n
        · rw [if_neg (fun h => by have := (nI_leI (by omega) (by omega)).mp h; omega), rA_i (by show j < 4; omega), Option.bind_some, ix5, rL_i (by rw [lnL2]; omega), Option.bind_some, show (sL M 2 (5 * f + j) s0).1 9 = nI f from hfd, wL_i (by rw [lnL4]; omega), Option.bind_some, nI_1, sL_at, if_pos ⟨rfl, rfl⟩, had, if_pos hjn]
          rfl
        · rw [if_pos ((nI_leI (by omega) (by omega)).mpr (by omega)), wL_i (by rw [lnL4]; omega), Option.bind_some, nI_1, had, if_neg hjn]
      unfold F_X3_take_62
      rw [if_neg (fun h => by have := (nI_leI (a := 5) (by omega) (by omega)).mp h; omega), hw, hfd]
      by_cases hjw : j < w
      · rw [if_neg (fun h => by have := (nI_leI (by omega) (by omega)).mp h; omega), ix6, rL_i (by rw [lnL1]; omega), Option.bind_some, ix5]
        rw [show x4 * M.2.2 1 (6 * j + w) = s0 by rw [hs0, if_pos hjw]]
        exact e112
      · rw [if_pos ((nI_leI (by omega) (by omega)).mpr (by omega)), ix5]
        have h9 : s0 = 0 := by rw [hs0, if_neg hjw]
        rw [h9] at e112 ⊢
        exact e112
    · rw [h4 k k1 k2, sL_ne k2, sL_ne k1]
    · rw [h5 i (by omega), sL_ne (by decide), sL_at, if_neg (by omega)]
    · by_cases e : j' = j
      · subst e
        rw [h5 _ (by omega), sL_ne (by decide), sL_at, if_pos ⟨rfl, rfl⟩]
        exact hs0v
      · exact h6 j' (by omega) q2
    · rw [h7 i hi, sL_at, if_neg (fun h => hi h.2), sL_ne (by decide)]
    · rw [h8, sL_at, if_pos ⟨rfl, rfl⟩, hsum, hadv]
      have : sm (fun j => if j < n then cc j * vv j else 0) (j + 1) = sm (fun j => if j < n then cc j * vv j else 0) j + (if j < n then cc j * vv j else 0) := rfl
      rw [this]
      omega
set_option maxHeartbeats 1000000 in
theorem tk_all {N B f : Nat} (hB : B ≤ 9) (hf : f < 130) {M : Mm} (hBB : M.1 8 = nI B) (hfd : M.1 9 = nI f) (hk : Nat → Prop) (H : ∀ k, k < B → ∃ r, f_X3_holds N (nI k) M = some (r, M) ∧ (r = 0 ∨ r = 1) ∧ (r = 1 ↔ hk k)) :
    ∀ (d k fuel : Nat), k + d = B → d < fuel → (lpT (fun _ _ _ => none) (F_X3_take_173 N) fuel 0 (nI k) M = some (wI M 9 (nI f))) ∧ ((∀ k', k ≤ k' → k' < B → hk k') → lpT (fun _ _ _ => none) (F_X3_take_173 N) fuel 1 (nI k) M = some (wI M 9 (nI (f + 1)))) ∧ ((∃ k', k ≤ k' ∧ k' < B ∧ ¬ hk k') → lpT (fun _ _ _ => none) (F_X3_take_173 N) fuel 1 (nI k) M = some (wI M 9 (nI f))) := by
  intro d
  induction d with
  | zero =>
    intro k fuel hkB hfu
    obtain ⟨g, rfl, -⟩ := fuel_s hfu
    have hkk : k = B := by omega
    subst hkk
    refine ⟨?_, fun _ => ?_, fun ⟨k', h1, h2, _⟩ => by omega⟩
    · rw [lp_s]
      unfold F_X3_take_173
      rw [hBB, if_pos (Int32.le_refl _), if_pos rfl, hfd]
      show some (wI M 9 (nI f + nI 0)) = _
      rw [nI_add]
      rfl
    · rw [lp_s]
      unfold F_X3_take_173
      rw [hBB, if_pos (Int32.le_refl _), if_neg (by decide), hfd, nI_1]
  | succ d ih =>
    intro k fuel hkB hfu
    obtain ⟨g, rfl, hg⟩ := fuel_s hfu
    obtain ⟨i1, i2, i3⟩ := ih (k + 1) g (by omega) (by omega)
    obtain ⟨r, hr1, hr2, hr3⟩ := H k (by omega)
    have e0 : lpT (fun _ _ _ => none) (F_X3_take_173 N) (g + 1) 0 (nI k) M = lpT (fun _ _ _ => none) (F_X3_take_173 N) g 0 (nI (k + 1)) M := by
      rw [lp_s]
      generalize lpT (fun _ _ _ => none) (F_X3_take_173 N) g = q
      unfold F_X3_take_173
      rw [hBB, if_neg (fun h => by have := (nI_leI (by omega) (by omega)).mp h; omega), if_pos rfl, nI_1]
    have e1 : lpT (fun _ _ _ => none) (F_X3_take_173 N) (g + 1) 1 (nI k) M = if r = 0 then lpT (fun _ _ _ => none) (F_X3_take_173 N) g 0 (nI (k + 1)) M else lpT (fun _ _ _ => none) (F_X3_take_173 N) g 1 (nI (k + 1)) M := by
      rw [lp_s]
      generalize lpT (fun _ _ _ => none) (F_X3_take_173 N) g = q
      unfold F_X3_take_173
      rw [hBB, if_neg (fun h => by have := (nI_leI (by omega) (by omega)).mp h; omega), if_neg (by decide), hr1, Option.bind_some, nI_1]
    refine ⟨by rw [e0]; exact i1, fun hall => ?_, fun ⟨k', q1, q2, q3⟩ => ?_⟩
    · have h1 : r = 1 := hr3.mpr (hall k (Nat.le_refl _) (by omega))
      rw [e1, if_neg (by rw [h1]; decide)]
      exact i2 (fun k' a b => hall k' (by omega) b)
    · rw [e1]
      by_cases h : r = 0
      · rw [if_pos h]; exact i1
      · rw [if_neg h]
        have h1 : r = 1 := hr2.resolve_left h
        have hkk := hr3.mp h1
        refine i3 ⟨k', ?_, q2, q3⟩
        have : k' ≠ k := fun e => q3 (by rw [e]; exact hkk)
        omega
