theorem lnA6 : lnA 6 = 12 := by decide
theorem lnA7 : lnA 7 = 3 := by decide
theorem lnA8 : lnA 8 = 4 := by decide
theorem lnA9 : lnA 9 = 3 := by decide
theorem lnA10 : lnA 10 = 3 := by decide
set_option maxHeartbeats 1000000 in
theorem su74 {N n i b : Nat} (hn : n ≤ 4) (hi : i < 3) (hb : b < 9) (x1 x2 : Int32) (k29 : Int32 → Int32 → Int32 → Mm → Option Mm) : ∀ (d j fuel : Nat) (M : Mm), j + d = n → d < fuel → M.1 4 = nI n → M.1 8 = nI (b + 1) →
    ∃ M', lpT (fun _ _ _ _ _ => none) (F_X3_setUp_74 N k29) fuel x1 x2 (nI i) (nI j) M = k29 x1 x2 (nI (i + 1)) M' ∧ M'.1 = M.1 ∧ fr2 M M' ∧ low M M' b ∧ (∀ c, c < 5 → M'.2.1 11 (5 * b + c) = if j ≤ c ∧ c < n then M.2.1 6 (4 * i + c) else if c = n then (if x2 = 2 then -(M.2.1 9 i) else 0) else M.2.1 11 (5 * b + c)) ∧ M'.2.1 12 = M.2.1 12 ∧ M'.2.1 13 = M.2.1 13 := by
  intro d
  induction d with
  | zero =>
    intro j fuel M hj hfu h4 h8
    obtain ⟨g, rfl, -⟩ := fuel_s hfu
    have hjn : j = n := by omega
    subst hjn
    refine ⟨sA M 11 (5 * b + j) (if x2 = 2 then -(M.2.1 9 i) else 0), ?_, rfl, fr2.sA (Or.inl rfl), ⟨fun q hq => ?_, fun q hq => ?_, fun q hq => ?_⟩, fun c hc => ?_, sA_ne (by decide), sA_ne (by decide)⟩
    · rw [lp_s]
      generalize lpT (fun _ _ _ _ _ => none) (F_X3_setUp_74 N k29) g = q
      unfold F_X3_setUp_74
      rw [h4, if_pos (Int32.le_refl _), h8, ix5s]
      by_cases e : x2 = 2
      · rw [if_pos e, if_pos e, rA_i (by rw [lnA9]; omega), Option.bind_some, wA_i (by rw [lnA11]; omega), Option.bind_some, nI_1]
      · rw [if_neg e, if_neg e, wA_i (by rw [lnA11]; omega), Option.bind_some, nI_1]
    · rw [sA_at, if_neg (by omega)]
    · rw [sA_ne (by decide)]
    · rw [sA_ne (by decide)]
    · rw [sA_at, if_neg (show ¬ (j ≤ c ∧ c < j) by omega)]
      by_cases e : c = j
      · rw [if_pos (show 11 = 11 ∧ 5 * b + c = 5 * b + j from ⟨rfl, by omega⟩), if_pos e]
      · rw [if_neg (show ¬ (11 = 11 ∧ 5 * b + c = 5 * b + j) by omega), if_neg e]
  | succ d ih =>
    intro j fuel M hj hfu h4 h8
    obtain ⟨g, rfl, hg⟩ := fuel_s hfu
    obtain ⟨M', h1, h2, h3, h5, h6, h7, h9⟩ := ih (j + 1) g (sA M 11 (5 * b + j) (M.2.1 6 (4 * i + j))) (by omega) (by omega) h4 h8
    refine ⟨M', ?_, h2, (fr2.sA (Or.inl rfl)).tr h3, low.tr ⟨fun q hq => ?_, fun q hq => ?_, fun q hq => ?_⟩ h5, fun c hc => ?_, h7.trans (sA_ne (by decide)), h9.trans (sA_ne (by decide))⟩
    · rw [← h1, lp_s]
      generalize lpT (fun _ _ _ _ _ => none) (F_X3_setUp_74 N k29) g = q
      unfold F_X3_setUp_74
      rw [h4, if_neg (fun h => by have := (nI_leI (by omega) (by omega)).mp h; omega), ix4, rA_i (by rw [lnA6]; omega), Option.bind_some, h8, ix5s, wA_i (by rw [lnA11]; omega), Option.bind_some, nI_1]
    · rw [sA_at, if_neg (by omega)]
    · rw [sA_ne (by decide)]
    · rw [sA_ne (by decide)]
    · rw [h6 c hc, sA_ne (by decide), sA_ne (by decide), sA_at]
      by_cases e : c = j
      · subst e
        rw [if_neg (by omega), if_neg (by omega), if_pos ⟨rfl, rfl⟩, if_pos (by omega)]
      · by_cases e2 : j + 1 ≤ c ∧ c < n
        · rw [if_pos e2, if_pos (by omega)]
        · rw [if_neg e2, if_neg (show ¬ (j ≤ c ∧ c < n) by omega), if_neg (show ¬ (11 = 11 ∧ 5 * b + c = 5 * b + j) by omega)]
/-- what row i says in a mode -/
def rowZ (M : Mm) (n : Nat) (x2 : Int32) (i c : Nat) : Int := if c < n then (M.2.1 6 (4 * i + c)).toInt else if c = n then (if x2 = 2 then -(M.2.1 9 i).toInt else 0) else 0
def rgtZ (M : Mm) (x2 : Int32) (i : Nat) : Int := if x2 = 1 then 0 else (M.2.1 7 i).toInt
theorem rowZ_fr {M M' : Mm} (h : fr2 M M') (n : Nat) (x2 : Int32) (i c : Nat) : rowZ M' n x2 i c = rowZ M n x2 i c := by
  unfold rowZ
  rw [h.2.1 6 (by decide) (by decide) (by decide), h.2.1 9 (by decide) (by decide) (by decide)]
set_option maxHeartbeats 1000000 in
theorem su29 {N n m mask : Nat} (hN : 10 ≤ N) (hn : n ≤ 4) (hm : m ≤ 3) (hk : mask < 2 ^ 31) (x2 : Int32) : ∀ (d i fuel : Nat) (M : Mm), i + d = m → d < fuel → M.1 4 = nI n → M.1 5 = nI m → M.1 8 = nI (ct mask i) → (∀ i, i < m → ab (M.2.1 9 i).toInt ≤ 9) →
    ∃ M', lpT (fun _ _ _ _ => none) (F_X3_setUp_29 N) fuel (nI mask) x2 (nI i) M = b_X3_setUp_158 N x2 0 M' ∧ M'.1 8 = nI (ct mask m) ∧ fr2 M M' ∧ low M M' (ct mask i) ∧ ∀ i', i ≤ i' → i' < m → bt mask i' → RW M' (ct mask i') (rowZ M n x2 i') (M.2.1 10 i') (rgtZ M x2 i') := by
  intro d
  induction d with
  | zero =>
    intro i fuel M hi hfu h4 h5 h8 he
    obtain ⟨g, rfl, -⟩ := fuel_s hfu
    have him : i = m := by omega
    subst him
    refine ⟨M, ?_, h8, fr2.rf, low.rf, fun i' a b => by omega⟩
    rw [lp_s]
    generalize lpT (fun _ _ _ _ => none) (F_X3_setUp_29 N) g = q
    unfold F_X3_setUp_29
    rw [h5, if_pos (Int32.le_refl _)]
  | succ d ih =>
    intro i fuel M hi hfu h4 h5 h8 he
    obtain ⟨g, rfl, hg⟩ := fuel_s hfu
    have hct : ct mask (i + 1) = ct mask i + mask / 2 ^ i % 2 := rfl
    have hle := ct_le mask i
    by_cases hb : bt mask i
    · have hb1 : mask / 2 ^ i % 2 = 1 := hb
      obtain ⟨M1, a1, a2, a3, a4, a5, a6⟩ := add_s (N := N) hN (show ct mask i < 9 by omega) (M.2.1 10 i) (if x2 = 1 then 0 else M.2.1 7 i) h8
      obtain ⟨M2, s1, s2, s3, s4, s5, s6, s7⟩ := su74 (N := N) hn (show i < 3 by omega) (show ct mask i < 9 by omega) (nI mask) x2 (lpT (fun _ _ _ _ => none) (F_X3_setUp_29 N) g) n 0 N M1 (by omega) (by omega) (by rw [a3.1 4 (by decide)]; exact h4) a2
      have f2 : fr2 M M2 := a3.tr s3
      obtain ⟨M', h1, h2, h3, h6, h7⟩ := ih (i + 1) g M2 (by omega) (by omega) (by rw [f2.1 4 (by decide)]; exact h4) (by rw [f2.1 5 (by decide)]; exact h5) (by rw [s2, a2, hct, hb1]) (fun i hi => by rw [f2.2.1 9 (by decide) (by decide) (by decide)]; exact he i hi)
      have hlow : low M M2 (ct mask i) := low.tr ⟨fun q hq => by rw [a4, if_neg (by omega)], fun q hq => by rw [a5, if_neg (by omega)], fun q hq => by rw [a6, if_neg (by omega)]⟩ s4
      refine ⟨M', ?_, h2, f2.tr h3, hlow.tr (h6.le (by omega)), fun i' q1 q2 q3 => ?_⟩
      · rw [← h1]
        refine Eq.trans ?_ s1
        rw [lp_s]
        generalize lpT (fun _ _ _ _ => none) (F_X3_setUp_29 N) g = q
        unfold F_X3_setUp_29
        rw [h5, if_neg (fun h => by have := (nI_leI (by omega) (by omega)).mp h; omega), if_pos ((bitq hk (by omega)).mpr hb), rA_i (by rw [lnA10]; omega), Option.bind_some]
        by_cases e : x2 = 1
        · rw [if_pos e] at a1
          rw [if_pos e, a1, Option.bind_some]
          rfl
        · rw [if_neg e] at a1
          rw [if_neg e, rA_i (by rw [lnA7]; omega), Option.bind_some, a1, Option.bind_some]
          rfl
      · by_cases e : i' = i
        · subst e
          have hr : RW M2 (ct mask i') (rowZ M n x2 i') (M.2.1 10 i') (rgtZ M x2 i') := by
            refine ⟨fun c hc => ?_, ?_, ?_⟩
            · rw [s5 c hc, a3.2.1 6 (by decide) (by decide) (by decide), a3.2.1 9 (by decide) (by decide) (by decide)]
              unfold rowZ
              by_cases c1 : c < n
              · rw [if_pos ⟨Nat.zero_le _, c1⟩, if_pos c1]
              · rw [if_neg (by omega), if_neg c1]
                by_cases c2 : c = n
                · rw [if_pos c2, if_pos c2]
                  by_cases c3 : x2 = 2
                  · rw [if_pos c3, if_pos c3]
                    have := ab_le.mp (he i' q2)
                    exact Kit.i32_neg (by omega)
                  · rw [if_neg c3, if_neg c3]; decide
                · rw [if_neg c2, if_neg c2, a4, if_pos (by omega)]; decide
            · rw [s6, a5, if_pos rfl]
            · rw [s7, a6, if_pos rfl]
              unfold rgtZ
              by_cases c1 : x2 = 1
              · rw [if_pos c1, if_pos c1]; decide
              · rw [if_neg c1, if_neg c1]
          exact hr.kept (b := ct mask (i' + 1)) (by omega) h6.1 h6.2.1 h6.2.2
        · have := h7 i' (by omega) q2 q3
          unfold rgtZ at this ⊢
          rw [f2.2.1 10 (by decide) (by decide) (by decide), f2.2.1 7 (by decide) (by decide) (by decide), show rowZ M2 n x2 i' = rowZ M n x2 i' from funext (rowZ_fr f2 n x2 i')] at this
          exact this
    · have hb1 : mask / 2 ^ i % 2 = 0 := by
        have : mask / 2 ^ i % 2 < 2 := Nat.mod_lt _ (by decide)
        unfold bt at hb
        omega
      obtain ⟨M', h1, h2, h3, h6, h7⟩ := ih (i + 1) g M (by omega) (by omega) h4 h5 (by rw [h8, hct, hb1]; rfl) he
      refine ⟨M', ?_, h2, h3, h6.le (by omega), fun i' q1 q2 q3 => h7 i' (by
        have : i' ≠ i := fun q => hb (q ▸ q3)
        omega) q2 q3⟩
      rw [← h1, lp_s]
      generalize lpT (fun _ _ _ _ => none) (F_X3_setUp_29 N) g = q
      unfold F_X3_setUp_29
      rw [h5, if_neg (fun h => by have := (nI_leI (by omega) (by omega)).mp h; omega), if_neg (fun h => hb ((bitq hk (by omega)).mp h)), nI_1]
