/-! THE CLASS: fillGrid, findParts -/
/-- nothing but the grid has changed -/
def fr3 (M M' : Mm) : Prop := M'.1 = M.1 ∧ M'.2.1 = M.2.1 ∧ ∀ κ, κ < 9 ∨ 12 ≤ κ → M'.2.2 κ = M.2.2 κ
theorem fr3.rf {M : Mm} : fr3 M M := ⟨rfl, rfl, fun _ _ => rfl⟩
theorem fr3.tr {M M' M'' : Mm} (h : fr3 M M') (h' : fr3 M' M'') : fr3 M M'' := ⟨h'.1.trans h.1, h'.2.1.trans h.2.1, fun k hk => (h'.2.2 k hk).trans (h.2.2 k hk)⟩
theorem fr3.sL {M : Mm} {l i : Nat} {x : Int64} (hl : l < 3) : fr3 M (sL M (9 + l) i x) := ⟨rfl, rfl, fun _ hk => sL_ne (by omega)⟩
set_option maxHeartbeats 1000000 in
theorem fg28 {N i l R sz : Nat} (hi : i < 3) (hl : l < 3) (hsz : sz ≤ 4) (pl : Nat → Nat) (hpl : ∀ p, p < sz → pl p < 6) (k6 : Int32 → Int32 → Int32 → Int32 → Mm → Option Mm) : ∀ (d p fuel : Nat) (M : Mm), p + d = 4 → d < fuel → (∀ p, p < sz → M.2.1 4 p = nI (pl p)) →
    ∃ M', lpT (fun _ _ _ _ _ _ => none) (F_X0_fillGrid_28 N k6) fuel (nI R) (nI sz) (nI l) (nI i) (nI p) M = k6 (nI R) (nI sz) (nI (l + 1)) (nI (i + 1)) M' ∧ fr3 M M' ∧ (∀ l', l' ≠ l → M'.2.2 (9 + l') = M.2.2 (9 + l')) ∧ (∀ p', p' < p → M'.2.2 (9 + l) p' = M.2.2 (9 + l) p') ∧ ∀ p', p ≤ p' → p' < 4 → M'.2.2 (9 + l) p' = if p' < sz then M.2.2 (6 + i) (pl p') else 0 := by
  intro d
  induction d with
  | zero =>
    intro p fuel M hp hf hM
    obtain ⟨g, rfl, -⟩ := fuel_s hf
    have hp4 : p = 4 := by omega
    subst hp4
    refine ⟨M, ?_, fr3.rf, fun _ _ => rfl, fun _ _ => rfl, fun p' a b => by omega⟩
    rw [lp_s]
    generalize lpT (fun _ _ _ _ _ _ => none) (F_X0_fillGrid_28 N k6) g = q
    unfold F_X0_fillGrid_28
    rw [if_pos (by decide), nI_1, nI_1]
  | succ d ih =>
    intro p fuel M hp hf hM
    obtain ⟨g, rfl, hg⟩ := fuel_s hf
    obtain ⟨M', h1, h2, h3, h4, h5⟩ := ih (p + 1) g (sL M (9 + l) p (if p < sz then M.2.2 (6 + i) (pl p) else 0)) (by omega) (by omega) hM
    have e6 : (sL M (9 + l) p (if p < sz then M.2.2 (6 + i) (pl p) else 0)).2.2 (6 + i) = M.2.2 (6 + i) := sL_ne (by omega)
    refine ⟨M', ?_, (fr3.sL hl).tr h2, fun l' hl' => (h3 l' hl').trans (sL_ne (by omega)), fun p' hp' => ?_, fun p' a b => ?_⟩
    · rw [← h1, lp_s]
      generalize lpT (fun _ _ _ _ _ _ => none) (F_X0_fillGrid_28 N k6) g = q
      unfold F_X0_fillGrid_28
      rw [if_neg (fun h => by have := (nI_leI (a := 4) (by omega) (by omega)).mp h; omega), rO1 hl, Option.bind_some]
      by_cases hps : p < sz
      · rw [if_neg (fun h => by have := (nI_leI (by omega) (by omega)).mp h; omega), rA_i (by rw [lnA4]; omega), Option.bind_some, hM p hps, entr hi (hpl p hps), Option.bind_some]
        dsimp only
        rw [wL_i (by rw [lnG l hl]; omega), Option.bind_some, nI_1, if_pos hps]
      · rw [if_pos ((nI_leI (by omega) (by omega)).mpr (by omega)), wL_i (by rw [lnG l hl]; omega), Option.bind_some, nI_1, if_neg hps]
    · rw [h4 p' (by omega), sL_at, if_neg (by omega)]
    · by_cases e : p' = p
      · subst e
        rw [h4 p' (by omega), sL_at, if_pos ⟨rfl, rfl⟩]
      · rw [h5 p' (by omega) b, e6]
set_option maxHeartbeats 1000000 in
theorem fg95 {N l : Nat} (hl : l < 3) (k86 : Int32 → Mm → Option Mm) : ∀ (d p fuel : Nat) (M : Mm), p + d = 4 → d < fuel →
    ∃ M', lpT (fun _ _ _ => none) (F_X0_fillGrid_95 N k86) fuel (nI l) (nI p) M = k86 (nI (l + 1)) M' ∧ fr3 M M' ∧ (∀ l', l' ≠ l → M'.2.2 (9 + l') = M.2.2 (9 + l')) ∧ (∀ p', p' < p → M'.2.2 (9 + l) p' = M.2.2 (9 + l) p') ∧ ∀ p', p ≤ p' → p' < 4 → M'.2.2 (9 + l) p' = if p' = l + 1 then 1 else 0 := by
  intro d
  induction d with
  | zero =>
    intro p fuel M hp hf
    obtain ⟨g, rfl, -⟩ := fuel_s hf
    have hp4 : p = 4 := by omega
    subst hp4
    refine ⟨M, ?_, fr3.rf, fun _ _ => rfl, fun _ _ => rfl, fun p' a b => by omega⟩
    rw [lp_s]
    generalize lpT (fun _ _ _ => none) (F_X0_fillGrid_95 N k86) g = q
    unfold F_X0_fillGrid_95
    rw [if_pos (by decide), nI_1]
  | succ d ih =>
    intro p fuel M hp hf
    obtain ⟨g, rfl, hg⟩ := fuel_s hf
    obtain ⟨M', h1, h2, h3, h4, h5⟩ := ih (p + 1) g (sL M (9 + l) p (if p = l + 1 then 1 else 0)) (by omega) (by omega)
    refine ⟨M', ?_, (fr3.sL hl).tr h2, fun l' hl' => (h3 l' hl').trans (sL_ne (by omega)), fun p' hp' => ?_, fun p' a b => ?_⟩
    · rw [← h1, lp_s]
      generalize lpT (fun _ _ _ => none) (F_X0_fillGrid_95 N k86) g = q
      unfold F_X0_fillGrid_95
      rw [if_neg (fun h => by have := (nI_leI (a := 4) (by omega) (by omega)).mp h; omega), rO1 hl, Option.bind_some, nI_1, nI_1]
      by_cases e : p = l + 1
      · rw [if_pos ((nI_eq (by omega) (by omega)).mpr e), if_pos e, wL_i (by rw [lnG l hl]; omega), Option.bind_some]
      · rw [if_neg (fun h => e ((nI_eq (by omega) (by omega)).mp h)), if_neg e, wL_i (by rw [lnG l hl]; omega), Option.bind_some]
    · rw [h4 p' (by omega), sL_at, if_neg (by omega)]
    · by_cases e : p' = p
      · subst e
        rw [h4 p' (by omega), sL_at, if_pos ⟨rfl, rfl⟩]
      · exact h5 p' (by omega) b
set_option maxHeartbeats 1000000 in
theorem fg86 {N : Nat} (hN : 10 ≤ N) : ∀ (d l fuel : Nat) (M : Mm), l + d = 3 → d < fuel →
    ∃ M', lpT (fun _ _ => none) (F_X0_fillGrid_86 N) fuel (nI l) M = some M' ∧ fr3 M M' ∧ (∀ l', l' < l → M'.2.2 (9 + l') = M.2.2 (9 + l')) ∧ ∀ l', l ≤ l' → l' < 3 → ∀ p, p < 4 → M'.2.2 (9 + l') p = if p = l' + 1 then 1 else 0 := by
  intro d
  induction d with
  | zero =>
    intro l fuel M hl hf
    obtain ⟨g, rfl, -⟩ := fuel_s hf
    have hl3 : l = 3 := by omega
    subst hl3
    refine ⟨M, ?_, fr3.rf, fun _ _ => rfl, fun p' a b => by omega⟩
    rw [lp_s]
    unfold F_X0_fillGrid_86
    rw [if_pos (by decide)]
  | succ d ih =>
    intro l fuel M hl hf
    obtain ⟨g, rfl, hg⟩ := fuel_s hf
    obtain ⟨M1, a1, a2, a3, a4, a5⟩ := fg95 (N := N) (show l < 3 by omega) (lpT (fun _ _ => none) (F_X0_fillGrid_86 N) g) 4 0 N M (by omega) (by omega)
    obtain ⟨M', h1, h2, h3, h4⟩ := ih (l + 1) g M1 (by omega) (by omega)
    refine ⟨M', ?_, a2.tr h2, fun l' hl' => (h3 l' (by omega)).trans (a3 l' (by omega)), fun l' q1 q2 p hp => ?_⟩
    · rw [← h1]
      refine Eq.trans ?_ a1
      rw [lp_s]
      generalize lpT (fun _ _ => none) (F_X0_fillGrid_86 N) g = q
      unfold F_X0_fillGrid_86
      rw [if_neg (fun h => by have := (nI_leI (a := 3) (by omega) (by omega)).mp h; omega)]
      rfl
    · by_cases e : l' = l
      · subst e
        rw [h3 l' (by omega)]
        exact a5 p (Nat.zero_le _) hp
      · exact h4 l' (by omega) q2 p hp
set_option maxHeartbeats 1000000 in
theorem fg6 {N m R sz : Nat} (hN : 10 ≤ N) (hm : m ≤ 3) (hR : R < 8) (hsz : sz ≤ 4) (pl : Nat → Nat) (hpl : ∀ p, p < sz → pl p < 6) : ∀ (d i fuel : Nat) (M : Mm), i + d = m → d < fuel → M.1 1 = nI m → (∀ p, p < sz → M.2.1 4 p = nI (pl p)) →
    ∃ M', lpT (fun _ _ _ _ _ => none) (F_X0_fillGrid_6 N) fuel (nI R) (nI sz) (nI (ct R i)) (nI i) M = some M' ∧ fr3 M M' ∧ (∀ l', l' < ct R i → M'.2.2 (9 + l') = M.2.2 (9 + l')) ∧ (∀ i', i ≤ i' → i' < m → bt R i' → ∀ p, p < 4 → M'.2.2 (9 + ct R i') p = if p < sz then M.2.2 (6 + i') (pl p) else 0) ∧ ∀ l', ct R m ≤ l' → l' < 3 → ∀ p, p < 4 → M'.2.2 (9 + l') p = if p = l' + 1 then 1 else 0 := by
  intro d
  induction d with
  | zero =>
    intro i fuel M hi hf h1 hM
    obtain ⟨g, rfl, -⟩ := fuel_s hf
    have him : i = m := by omega
    subst him
    have hle := ct_le R i
    obtain ⟨M', a1, a2, a3, a4⟩ := fg86 (N := N) hN (3 - ct R i) (ct R i) N M (by omega) (by omega)
    refine ⟨M', ?_, a2, a3, fun i' a b => by omega, a4⟩
    refine Eq.trans ?_ a1
    rw [lp_s]
    generalize lpT (fun _ _ _ _ _ => none) (F_X0_fillGrid_6 N) g = q
    unfold F_X0_fillGrid_6
    rw [h1, if_pos (Int32.le_refl _)]
  | succ d ih =>
    intro i fuel M hi hf h1 hM
    obtain ⟨g, rfl, hg⟩ := fuel_s hf
    have hct : ct R (i + 1) = ct R i + R / 2 ^ i % 2 := rfl
    have hle := ct_le R i
    by_cases hb : bt R i
    · have hb1 : R / 2 ^ i % 2 = 1 := hb
      obtain ⟨M1, a1, a2, a3, a4, a5⟩ := fg28 (N := N) (R := R) (show i < 3 by omega) (show ct R i < 3 by omega) hsz pl hpl (lpT (fun _ _ _ _ _ => none) (F_X0_fillGrid_6 N) g) 4 0 N M (by omega) (by omega) hM
      obtain ⟨M', b1, b2, b3, b4, b5⟩ := ih (i + 1) g M1 (by omega) (by omega) (by rw [a2.1]; exact h1) (fun p hp => by rw [a2.2.1]; exact hM p hp)
      refine ⟨M', ?_, a2.tr b2, fun l' hl' => (b3 l' (by omega)).trans (a3 l' (by omega)), fun i' q1 q2 q3 p hp => ?_, b5⟩
      · rw [← b1, hct, hb1]
        refine Eq.trans ?_ a1
        rw [lp_s]
        generalize lpT (fun _ _ _ _ _ => none) (F_X0_fillGrid_6 N) g = q
        unfold F_X0_fillGrid_6
        rw [h1, if_neg (fun h => by have := (nI_leI (by omega) (by omega)).mp h; omega), if_pos ((bitq (by omega) (by omega)).mpr hb)]
        rfl
      · by_cases e : i' = i
        · subst e
          rw [b3 _ (by omega)]
          exact a5 p (Nat.zero_le _) hp
        · rw [b4 i' (by omega) q2 q3 p hp, a2.2.2 (6 + i') (by omega)]
    · have hb1 : R / 2 ^ i % 2 = 0 := by
        have : R / 2 ^ i % 2 < 2 := Nat.mod_lt _ (by decide)
        unfold bt at hb
        omega
      obtain ⟨M', b1, b2, b3, b4, b5⟩ := ih (i + 1) g M (by omega) (by omega) h1 hM
      refine ⟨M', ?_, b2, fun l' hl' => b3 l' (by omega), fun i' q1 q2 q3 => b4 i' (by
        have : i' ≠ i := fun q => hb (q ▸ q3)
        omega) q2 q3, b5⟩
      rw [← b1, hct, hb1, lp_s]
      generalize lpT (fun _ _ _ _ _ => none) (F_X0_fillGrid_6 N) g = q
      unfold F_X0_fillGrid_6
      rw [h1, if_neg (fun h => by have := (nI_leI (by omega) (by omega)).mp h; omega), if_neg (fun h => hb ((bitq (by omega) (by omega)).mp h)), nI_1]
      rfl
set_option maxHeartbeats 1000000 in
theorem fp_loop {N sz : Nat} (hsz : sz ≤ 4) {x2 : Int64} (hx : x2.toInt = 1 ∨ x2.toInt = -1) (G : Nat → Nat → Int) (hG : ∀ l, l < 3 → ∀ p, p < 4 → ab (G l p) ≤ 59) : ∀ (d p fuel : Nat) (M : Mm), p + d = sz → d < fuel → (∀ l, l < 3 → ∀ p, p < 4 → gr M l p = G l p) →
    ∃ r M', lpT (fun _ _ _ _ => none) (F_X0_findParts_21 N) fuel (nI sz) x2 (nI p) M = some (r, M') ∧ (r = 0 ∨ r = 1) ∧ M'.1 = M.1 ∧ M'.2.1 = M.2.1 ∧ (∀ κ, κ ≠ 0 → M'.2.2 κ = M.2.2 κ) ∧ (∀ p', p' < p → M'.2.2 0 p' = M.2.2 0 p') ∧ (r = 1 ↔ ∀ p', p ≤ p' → p' < sz → 0 < x2.toInt * cof G p') ∧ (r = 1 → ∀ p', p ≤ p' → p' < sz → (M'.2.2 0 p').toInt = x2.toInt * cof G p') := by
  intro d
  induction d with
  | zero =>
    intro p fuel M hp hf hM
    obtain ⟨g, rfl, -⟩ := fuel_s hf
    have hps : p = sz := by omega
    subst hps
    refine ⟨1, M, ?_, Or.inr rfl, rfl, rfl, fun _ _ => rfl, fun _ _ => rfl, ⟨fun _ p' a b => by omega, fun _ => rfl⟩, fun _ p' a b => by omega⟩
    rw [lp_s]
    unfold F_X0_findParts_21
    rw [if_pos (Int32.le_refl _)]
  | succ d ih =>
    intro p fuel M hp hf hM
    obtain ⟨g, rfl, hg⟩ := fuel_s hf
    obtain ⟨y, c1, c2, c3⟩ := cof_s (N := N) (g := p) (by omega) (M := M) (fun l hl p hp => by rw [hM l hl p hp]; exact hG l hl p hp)
    have hgr : cof (gr M) p = cof G p := by
      unfold cof d3
      rw [hM 0 (by decide) 0 (by decide), hM 0 (by decide) 1 (by decide), hM 0 (by decide) 2 (by decide), hM 0 (by decide) 3 (by decide), hM 1 (by decide) 0 (by decide), hM 1 (by decide) 1 (by decide), hM 1 (by decide) 2 (by decide), hM 1 (by decide) 3 (by decide), hM 2 (by decide) 0 (by decide), hM 2 (by decide) 1 (by decide), hM 2 (by decide) 2 (by decide), hM 2 (by decide) 3 (by decide)]
    rw [hgr] at c2
    have b3 := ab_le.mp c3
    have ev : (x2 * y).toInt = x2.toInt * cof G p := by
      rw [Kit.i64_mul (by rcases hx with q | q <;> rw [q] <;> omega) (by rcases hx with q | q <;> rw [q] <;> omega), c2]
    obtain ⟨r, M', h1, h2, h3, h4, h5, h6, h7, h8⟩ := ih (p + 1) g (sL M 0 p (x2 * y)) (by omega) (by omega) (fun l hl p' hp' => by
      have : gr (sL M 0 p (x2 * y)) l p' = gr M l p' := by unfold gr; rw [sL_ne (by omega)]
      rw [this]; exact hM l hl p' hp')
    have hstep : lpT (fun _ _ _ _ => none) (F_X0_findParts_21 N) (g + 1) (nI sz) x2 (nI p) M = if 0 < lg_cmp (x2 * y) 0 then some (r, M') else some (0, sL M 0 p (x2 * y)) := by
      rw [← h1, lp_s]
      generalize lpT (fun _ _ _ _ => none) (F_X0_findParts_21 N) g = q
      unfold F_X0_findParts_21
      rw [if_neg (fun h => by have := (nI_leI (by omega) (by omega)).mp h; omega), c1, Option.bind_some]
      dsimp only
      rw [wL_i (by rw [lnL0]; omega), Option.bind_some, rL_i (by rw [lnL0]; omega), Option.bind_some, show (sL M 0 p (x2 * y)).2.2 0 p = x2 * y by rw [sL_at, if_pos ⟨rfl, rfl⟩], nI_1]
    rw [hstep]
    by_cases hc : 0 < lg_cmp (x2 * y) 0
    · rw [if_pos hc]
      have hpos := cmp_gt.mp hc
      rw [l0, ev] at hpos
      refine ⟨r, M', rfl, h2, h3, h4, fun κ hκ => (h5 κ hκ).trans (sL_ne hκ), fun p' hp' => ?_, h7.trans ⟨fun h p' a b => ?_, fun h p' a b => h p' (by omega) b⟩, fun hr p' a b => ?_⟩
      · rw [h6 p' (by omega), sL_at, if_neg (by omega)]
      · by_cases e : p' = p
        · rw [e]; exact hpos
        · exact h p' (by omega) b
      · by_cases e : p' = p
        · rw [e, h6 p (by omega), sL_at, if_pos ⟨rfl, rfl⟩]; exact ev
        · exact h8 hr p' (by omega) b
    · rw [if_neg hc]
      have hneg : ¬ (0 : Int64).toInt < (x2 * y).toInt := fun h => hc (cmp_gt.mpr h)
      rw [l0, ev] at hneg
      refine ⟨0, _, rfl, Or.inl rfl, rfl, rfl, fun κ hκ => sL_ne hκ, fun p' hp' => by rw [sL_at, if_neg (by omega)], ⟨fun h => absurd h (by decide), fun h => absurd (h p (Nat.le_refl _) (by omega)) hneg⟩, fun h => absurd h (by decide)⟩
theorem fp {N sz : Nat} (hN : 10 ≤ N) (hsz : sz ≤ 4) (G : Nat → Nat → Int) (hG : ∀ l, l < 3 → ∀ p, p < 4 → ab (G l p) ≤ 59) {M : Mm} (hM : ∀ l, l < 3 → ∀ p, p < 4 → gr M l p = G l p) :
    ∃ r M' σ, f_X0_findParts N (nI sz) M = some (r, M') ∧ (r = 0 ∨ r = 1) ∧ M'.1 = M.1 ∧ M'.2.1 = M.2.1 ∧ (∀ κ, κ ≠ 0 → M'.2.2 κ = M.2.2 κ) ∧ (σ = if cof G 0 < 0 then -1 else 1) ∧ (r = 1 ↔ ∀ p, p < sz → 0 < σ * cof G p) ∧ (r = 1 → ∀ p, p < sz → (M'.2.2 0 p).toInt = σ * cof G p) := by
  obtain ⟨y, c1, c2, c3⟩ := cof_s (N := N) (g := 0) (by decide) (M := M) (fun l hl p hp => by rw [hM l hl p hp]; exact hG l hl p hp)
  have hgr : cof (gr M) 0 = cof G 0 := by
    show d3 (gr M) 1 2 3 = d3 G 1 2 3
    unfold d3
    rw [hM 0 (by decide) 1 (by decide), hM 0 (by decide) 2 (by decide), hM 0 (by decide) 3 (by decide), hM 1 (by decide) 1 (by decide), hM 1 (by decide) 2 (by decide), hM 1 (by decide) 3 (by decide), hM 2 (by decide) 1 (by decide), hM 2 (by decide) 2 (by decide), hM 2 (by decide) 3 (by decide)]
  rw [hgr] at c2
  have go : ∀ x2 : Int64, (x2.toInt = 1 ∨ x2.toInt = -1) → x2.toInt = (if cof G 0 < 0 then -1 else 1) → b_X0_findParts_21 N (nI sz) x2 0 M = f_X0_findParts N (nI sz) M → ∃ r M' σ, f_X0_findParts N (nI sz) M = some (r, M') ∧ (r = 0 ∨ r = 1) ∧ M'.1 = M.1 ∧ M'.2.1 = M.2.1 ∧ (∀ κ, κ ≠ 0 → M'.2.2 κ = M.2.2 κ) ∧ (σ = if cof G 0 < 0 then -1 else 1) ∧ (r = 1 ↔ ∀ p, p < sz → 0 < σ * cof G p) ∧ (r = 1 → ∀ p, p < sz → (M'.2.2 0 p).toInt = σ * cof G p) := by
    intro x2 hx hσ he
    obtain ⟨r, M', h1, h2, h3, h4, h5, -, h7, h8⟩ := fp_loop (N := N) hsz hx G hG sz 0 N M (by omega) (by omega) hM
    refine ⟨r, M', x2.toInt, he.symm.trans h1, h2, h3, h4, h5, hσ, h7.trans ⟨fun h p hp => h p (Nat.zero_le _) hp, fun h p _ hp => h p hp⟩, fun hr p hp => h8 hr p (Nat.zero_le _) hp⟩
  have hf : f_X0_findParts N (nI sz) M = if 0 ≤ lg_cmp y 0 then b_X0_findParts_21 N (nI sz) 1 0 M else b_X0_findParts_21 N (nI sz) (-1) 0 M := by
    unfold f_X0_findParts b_X0_findParts_0
    rw [show f_X0_cofactor N 0 M = some (y, M) from c1, Option.bind_some]
  by_cases h : 0 ≤ lg_cmp y 0
  · have h' := cmp_ge.mp h
    rw [l0, c2] at h'
    exact go 1 (Or.inl l1) (by rw [l1, if_neg (by omega)]) (by rw [hf, if_pos h])
  · have h' : ¬ (0 : Int64).toInt ≤ y.toInt := fun q => h (cmp_ge.mpr q)
    rw [l0, c2] at h'
    exact go (-1) (Or.inr lm1) (by rw [lm1, if_pos (by omega)]) (by rw [hf, if_neg h])
