/-! THE REFERENCE: picked -/
def bt (p k : Nat) : Prop := p / 2 ^ k % 2 = 1
theorem sh31 : ∀ n, n < 31 → ((nI n &&& 31).toBitVec.smod 32).toNat = n := by decide +kernel
theorem bitq {p k : Nat} (hp : p < 2 ^ 31) (hk : k < 31) : ((nI p >>> (nI k &&& 31)) &&& 1) = 1 ↔ bt p k := by
  have h2 : p / 2 ^ k < 2 ^ 31 := Nat.lt_of_le_of_lt (Nat.div_le_self _ _) hp
  rw [pk_shrN hp _ k (sh31 k hk), pk_andN (by omega) 1 (by decide)]
  show nI (p / 2 ^ k % 2 ^ 1) = nI 1 ↔ p / 2 ^ k % 2 = 1
  rw [nI_eq (by omega) (by omega)]
/-- how many of the bits below k are set -/
def ct (p : Nat) : Nat → Nat
  | 0 => 0
  | k + 1 => ct p k + p / 2 ^ k % 2
theorem ct_le (p : Nat) : ∀ k, ct p k ≤ k
  | 0 => Nat.le_refl _
  | k + 1 => by
    have := ct_le p k
    show ct p k + p / 2 ^ k % 2 ≤ k + 1
    omega
theorem ct_mono (p : Nat) {a : Nat} : ∀ {b : Nat}, a ≤ b → ct p a ≤ ct p b
  | 0, h => by rw [show a = 0 by omega]; exact Nat.le_refl _
  | b + 1, h => by
    by_cases e : a = b + 1
    · rw [e]; exact Nat.le_refl _
    · have := ct_mono p (show a ≤ b by omega)
      show ct p a ≤ ct p b + p / 2 ^ b % 2
      omega
theorem ct_lt {p k B : Nat} (h : bt p k) (hk : k < B) : ct p k < ct p B := by
  have h1 : ct p (k + 1) ≤ ct p B := ct_mono p hk
  have h2 : ct p (k + 1) = ct p k + p / 2 ^ k % 2 := rfl
  unfold bt at h
  omega
theorem ct_inj {p a b : Nat} (ha : bt p a) (hb : bt p b) (h : ct p a = ct p b) : a = b := by
  rcases Nat.lt_trichotomy a b with q | q | q
  · have := ct_lt ha q; omega
  · exact q
  · have := ct_lt hb q; omega
theorem ct_at {p : Nat} : ∀ {B r : Nat}, r < ct p B → ∃ k, k < B ∧ bt p k ∧ ct p k = r
  | 0, r, h => by cases h
  | B + 1, r, h => by
    by_cases e : r < ct p B
    · obtain ⟨k, h1, h2, h3⟩ := ct_at e
      exact ⟨k, by omega, h2, h3⟩
    · have h2 : ct p (B + 1) = ct p B + p / 2 ^ B % 2 := rfl
      have h3 : p / 2 ^ B % 2 < 2 := Nat.mod_lt _ (by decide)
      exact ⟨B, by omega, by unfold bt; omega, by omega⟩
theorem lnA11 : lnA 11 = 45 := by decide
theorem lnA12 : lnA 12 = 9 := by decide
theorem lnA13 : lnA 13 = 9 := by decide
set_option maxHeartbeats 1000000 in
theorem pck_in {N w k r p : Nat} (hw5 : w ≤ 5) (hk : k < 9) (hr : r < w) (k4 : Int32 → Int32 → Int32 → Mm → Option (Int32 × Mm)) : ∀ (d j fuel : Nat) (M : Mm), j + d = w → d < fuel → M.1 7 = nI w →
    ∃ M', lpT (fun _ _ _ _ _ => none) (F_X3_picked_24 N k4) fuel (nI p) (nI r) (nI k) (nI j) M = k4 (nI p) (nI (r + 1)) (nI (k + 1)) M' ∧ fr1 M M' ∧ (∀ i, (∀ c, j ≤ c → c ≤ w → i ≠ 6 * r + c) → M'.2.2 1 i = M.2.2 1 i) ∧ (∀ c, j ≤ c → c < w → M'.2.2 1 (6 * r + c) = (M.2.1 11 (5 * k + c)).toInt64) ∧ M'.2.2 1 (6 * r + w) = (M.2.1 13 k).toInt64 := by
  intro d
  induction d with
  | zero =>
    intro j fuel M hj hf hw
    obtain ⟨n, rfl, -⟩ := fuel_s hf
    refine ⟨sL M 1 (6 * r + w) (M.2.1 13 k).toInt64, ?_, fr1.sL, fun i hi => ?_, fun c h1 h2 => by omega, ?_⟩
    · rw [lp_s]
      generalize lpT (fun _ _ _ _ _ => none) (F_X3_picked_24 N k4) n = g
      unfold F_X3_picked_24
      rw [hw, if_pos ((nI_leI (by omega) (by omega)).mpr (by omega))]
      unfold b_X3_picked_71
      rw [hw, if_neg (fun h => by have := (nI_leI (by omega) (by omega)).mp h; omega), rA_i (by rw [lnA13]; omega), Option.bind_some, ix6, wL_i (by rw [lnL1]; omega), Option.bind_some, nI_1, nI_1]
    · rw [sL_at, if_neg (fun h => hi w (by omega) (Nat.le_refl _) h.2)]
    · rw [sL_at, if_pos ⟨rfl, rfl⟩]
  | succ d ih =>
    intro j fuel M hj hf hw
    obtain ⟨n, rfl, hn⟩ := fuel_s hf
    obtain ⟨M', h1, h2, h3, h4, h5⟩ := ih (j + 1) n (sL M 1 (6 * r + j) (M.2.1 11 (5 * k + j)).toInt64) (by omega) (by omega) hw
    refine ⟨M', ?_, fr1.sL.tr h2, fun i hi => ?_, fun c hc hc2 => ?_, h5⟩
    · rw [← h1, lp_s]
      generalize lpT (fun _ _ _ _ _ => none) (F_X3_picked_24 N k4) n = g
      unfold F_X3_picked_24
      rw [hw, if_neg (fun h => by have := (nI_leI (by omega) (by omega)).mp h; omega), if_neg (fun h => by have := (nI_leI (by omega) (by omega)).mp h; omega), ix5, rA_i (by rw [lnA11]; omega), Option.bind_some, ix6, wL_i (by rw [lnL1]; omega), Option.bind_some, nI_1]
    · rw [h3 i (fun c hc hc2 => hi c (by omega) hc2), sL_at, if_neg (fun h => hi j (Nat.le_refl _) (by omega) h.2)]
    · by_cases e : c = j
      · subst e
        rw [h3 _ (fun c' _ _ => by omega), sL_at, if_pos ⟨rfl, rfl⟩]
      · exact h4 c (by omega) hc2
set_option maxHeartbeats 1000000 in
theorem pck_loop {N w B p : Nat} (hN : 20 ≤ N) (hw5 : w ≤ 5) (hB : B ≤ 9) (hp : p < 2 ^ 31) : ∀ (d k fuel : Nat) (M : Mm), k + d = B → d < fuel → M.1 7 = nI w → M.1 8 = nI B →
    ∃ M', lpT (fun _ _ _ _ => none) (F_X3_picked_4 N) fuel (nI p) (nI (ct p k)) (nI k) M = some (if ct p B = w then 1 else 0, M') ∧ fr1 M M' ∧ (∀ i, (∀ k', k ≤ k' → k' < B → bt p k' → ct p k' < w → ∀ c, c ≤ w → i ≠ 6 * ct p k' + c) → M'.2.2 1 i = M.2.2 1 i) ∧ ∀ k', k ≤ k' → k' < B → bt p k' → ct p k' < w → (∀ c, c < w → M'.2.2 1 (6 * ct p k' + c) = (M.2.1 11 (5 * k' + c)).toInt64) ∧ M'.2.2 1 (6 * ct p k' + w) = (M.2.1 13 k').toInt64 := by
  intro d
  induction d with
  | zero =>
    intro k fuel M hk hf hw hBB
    obtain ⟨n, rfl, -⟩ := fuel_s hf
    have hkB : k = B := by omega
    subst hkB
    have := ct_le p k
    refine ⟨M, ?_, fr1.rf, fun _ _ => rfl, fun k' h1 h2 => by omega⟩
    rw [lp_s]
    unfold F_X3_picked_4
    rw [hBB, if_pos (Int32.le_refl _), hw]
    by_cases e : ct p k = w
    · rw [if_pos ((nI_eq (by omega) (by omega)).mpr e), if_pos e]
    · rw [if_neg (fun h => e ((nI_eq (by omega) (by omega)).mp h)), if_neg e]
  | succ d ih =>
    intro k fuel M hk hf hw hBB
    obtain ⟨n, rfl, hn⟩ := fuel_s hf
    have hle := ct_le p k
    have hct : ct p (k + 1) = ct p k + p / 2 ^ k % 2 := rfl
    have e : lpT (fun _ _ _ _ => none) (F_X3_picked_4 N) (n + 1) (nI p) (nI (ct p k)) (nI k) M = if ((nI p >>> (nI k &&& 31)) &&& 1) = 1 then b_X3_picked_24 N (lpT (fun _ _ _ _ => none) (F_X3_picked_4 N) n) (nI p) (nI (ct p k)) (nI k) 0 M else lpT (fun _ _ _ _ => none) (F_X3_picked_4 N) n (nI p) (nI (ct p k)) (nI (k + 1)) M := by
      rw [lp_s]
      generalize lpT (fun _ _ _ _ => none) (F_X3_picked_4 N) n = g
      unfold F_X3_picked_4
      rw [hBB, if_neg (fun h => by have := (nI_leI (by omega) (by omega)).mp h; omega), nI_1]
    by_cases hb : bt p k
    · have hb1 : p / 2 ^ k % 2 = 1 := hb
      rw [e, if_pos ((bitq hp (by omega)).mpr hb)]
      by_cases hr : ct p k < w
      · obtain ⟨Mi, g1, g2, g3, g4, g5⟩ := pck_in (N := N) (p := p) hw5 (show k < 9 by omega) hr (lpT (fun _ _ _ _ => none) (F_X3_picked_4 N) n) w 0 N M (by omega) (by omega) hw
        obtain ⟨M', h1, h2, h3, h4⟩ := ih (k + 1) n Mi (by omega) (by omega) (by rw [g2.1]; exact hw) (by rw [g2.1]; exact hBB)
        have hne : ∀ k', k + 1 ≤ k' → k' < B → bt p k' → ct p k' ≠ ct p k := fun k' q1 _ q3 q => by have := ct_inj q3 hb q; omega
        refine ⟨M', ?_, g2.tr h2, fun i hi => ?_, fun k' q1 q2 q3 q4 => ?_⟩
        · refine Eq.trans g1 ?_
          rw [show ct p k + 1 = ct p (k + 1) by omega]
          exact h1
        · rw [h3 i (fun k' q1 q2 q3 q4 c hc => hi k' (by omega) q2 q3 q4 c hc), g3 i (fun c _ hc => hi k (Nat.le_refl _) (by omega) hb hr c hc)]
        · by_cases ek : k' = k
          · subst ek
            have hfar : ∀ c, c ≤ w → M'.2.2 1 (6 * ct p k' + c) = Mi.2.2 1 (6 * ct p k' + c) := fun c hc => h3 _ (fun k2 q1 q2 q3 q4 c' hc' => by have := hne k2 q1 q2 q3; omega)
            exact ⟨fun c hc => by rw [hfar c (by omega)]; exact g4 c (Nat.zero_le _) hc, by rw [hfar w (Nat.le_refl _)]; exact g5⟩
          · obtain ⟨a1, a2⟩ := h4 k' (by omega) q2 q3 q4
            rw [g2.2.1] at a1 a2
            exact ⟨a1, a2⟩
      · obtain ⟨M', h1, h2, h3, h4⟩ := ih (k + 1) n M (by omega) (by omega) hw hBB
        refine ⟨M', ?_, h2, fun i hi => h3 i (fun k' q1 q2 q3 q4 c hc => hi k' (by omega) q2 q3 q4 c hc), fun k' q1 q2 q3 q4 => h4 k' (by
          have : k' ≠ k := fun q => by rw [q] at q4; exact hr q4
          omega) q2 q3 q4⟩
        rw [← h1, hct, hb1]
        obtain ⟨N', hN', -⟩ := fuel_s (f := N) (d := 0) (by omega)
        generalize lpT (fun _ _ _ _ => none) (F_X3_picked_4 N) n = g
        unfold b_X3_picked_24
        rw [hN', lp_s]
        generalize lpT (fun _ _ _ _ _ => none) (F_X3_picked_24 (N' + 1) g) N' = g2
        unfold F_X3_picked_24
        rw [hw]
        have e71 : b_X3_picked_71 (N' + 1) g (nI p) (nI (ct p k)) (nI k) M = g (nI p) (nI (ct p k + 1)) (nI (k + 1)) M := by
          unfold b_X3_picked_71
          rw [hw, if_pos ((nI_leI (by omega) (by omega)).mpr (by omega)), nI_1, nI_1]
        rw [e71]
        by_cases q : nI w ≤ 0
        · rw [if_pos q]
        · rw [if_neg q, if_pos ((nI_leI (by omega) (by omega)).mpr (by omega))]
    · have hb1 : p / 2 ^ k % 2 = 0 := by
        have : p / 2 ^ k % 2 < 2 := Nat.mod_lt _ (by decide)
        unfold bt at hb
        omega
      obtain ⟨M', h1, h2, h3, h4⟩ := ih (k + 1) n M (by omega) (by omega) hw hBB
      refine ⟨M', ?_, h2, fun i hi => h3 i (fun k' q1 q2 q3 q4 c hc => hi k' (by omega) q2 q3 q4 c hc), fun k' q1 q2 q3 q4 => h4 k' (by
          have : k' ≠ k := fun q => by rw [q] at q3; exact hb q3
          omega) q2 q3 q4⟩
      rw [e, if_neg (fun h => hb ((bitq hp (by omega)).mp h)), ← h1, hct, hb1]
      rfl
