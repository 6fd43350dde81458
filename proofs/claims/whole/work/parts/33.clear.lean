/-! THE REFERENCE'S ELIMINATION: swap, clear -/
/-- rows r < w of the matrix, columns c ≤ w -/
def mt (M : Mm) (w : Nat) (A : Nat → Nat → Int) : Prop := ∀ r, r < w → ∀ c, c ≤ w → (M.2.2 1 (6 * r + c)).toInt = A r c
/-- nothing but the matrix has changed -/
def fr1 (M M' : Mm) : Prop := M'.1 = M.1 ∧ M'.2.1 = M.2.1 ∧ ∀ k, k ≠ 1 → M'.2.2 k = M.2.2 k
theorem fr1.rf {M : Mm} : fr1 M M := ⟨rfl, rfl, fun _ _ => rfl⟩
theorem fr1.tr {M M' M'' : Mm} (h : fr1 M M') (h' : fr1 M' M'') : fr1 M M'' := ⟨h'.1.trans h.1, h'.2.1.trans h.2.1, fun k hk => (h'.2.2 k hk).trans (h.2.2 k hk)⟩
theorem fr1.sL {M : Mm} {i : Nat} {x : Int64} : fr1 M (sL M 1 i x) := ⟨rfl, rfl, fun _ hk => sL_ne hk⟩
theorem lnL1 : lnL 1 = 30 := by decide
theorem div_ex {x y z a b : Int64} {q : Int} (hb1 : ab (x.toInt * a.toInt) ≤ 2 ^ 60) (hb2 : ab (y.toInt * b.toInt) ≤ 2 ^ 60) (hz : z.toInt ≠ 0) (he : x.toInt * a.toInt - y.toInt * b.toInt = z.toInt * q) : ((x * a - y * b) / z).toInt = q := by
  have h1 := ab_le.mp hb1
  have h2 := ab_le.mp hb2
  have e1 : (x * a).toInt = x.toInt * a.toInt := Kit.i64_mul (by omega) (by omega)
  have e2 : (y * b).toInt = y.toInt * b.toInt := Kit.i64_mul (by omega) (by omega)
  have e3 : (x * a - y * b).toInt = x.toInt * a.toInt - y.toInt * b.toInt := by
    rw [Kit.i64_sub (by rw [e1, e2]; omega) (by rw [e1, e2]; omega), e1, e2]
  rw [Kit.i64_div (by rw [e3]; omega), e3, he]
  exact Int.mul_tdiv_cancel_left q hz
set_option maxHeartbeats 1000000 in
theorem clr_in {N w k r : Nat} (hw5 : w ≤ 5) (hk : k < w) (hr : r < w) (hrk : r ≠ k) {x2 x4 x7 : Int64} (h0 : x2.toInt ≠ 0) (k14 : Int32 → Int64 → Int64 → Int32 → Mm → Option Mm) {A : Nat → Nat → Int} {q : Nat → Int}
    (hex : ∀ c, c ≤ w → x4.toInt * A r c - x7.toInt * A k c = x2.toInt * q c) (hb1 : ∀ c, c ≤ w → ab (x4.toInt * A r c) ≤ 2 ^ 60) (hb2 : ∀ c, c ≤ w → ab (x7.toInt * A k c) ≤ 2 ^ 60) :
    ∀ (d j fuel : Nat) (M : Mm), j + d = w + 1 → d < fuel → M.1 7 = nI w → (∀ c, j ≤ c → c ≤ w → (M.2.2 1 (6 * r + c)).toInt = A r c) → (∀ c, c ≤ w → (M.2.2 1 (6 * k + c)).toInt = A k c) →
    ∃ M', lpT (fun _ _ _ _ _ _ _ => none) (F_X3_clear_40 N k14) fuel (nI k) x2 x4 (nI r) x7 (nI j) M = k14 (nI k) x2 x4 (nI (r + 1)) M' ∧ fr1 M M' ∧ (∀ i, (∀ c, j ≤ c → c ≤ w → i ≠ 6 * r + c) → M'.2.2 1 i = M.2.2 1 i) ∧ ∀ c, j ≤ c → c ≤ w → (M'.2.2 1 (6 * r + c)).toInt = q c := by
  intro d
  induction d with
  | zero =>
    intro j fuel M hj hf hw hr' hk'
    obtain ⟨n, rfl, -⟩ := fuel_s hf
    refine ⟨M, ?_, fr1.rf, fun _ _ => rfl, fun c h1 h2 => by omega⟩
    rw [lp_s]
    unfold F_X3_clear_40
    rw [hw, if_pos ((nI_ltI (by omega) (by omega)).mpr (by omega)), nI_1]
  | succ d ih =>
    intro j fuel M hj hf hw hr' hk'
    obtain ⟨n, rfl, hn⟩ := fuel_s hf
    have e1 := hr' j (Nat.le_refl _) (by omega)
    have e2 := hk' j (by omega)
    have hq : ((x4 * M.2.2 1 (6 * r + j) - x7 * M.2.2 1 (6 * k + j)) / x2).toInt = q j := div_ex (by rw [e1]; exact hb1 j (by omega)) (by rw [e2]; exact hb2 j (by omega)) h0 (by rw [e1, e2]; exact hex j (by omega))
    obtain ⟨M', h1, h2, h3, h4⟩ := ih (j + 1) n (sL M 1 (6 * r + j) ((x4 * M.2.2 1 (6 * r + j) - x7 * M.2.2 1 (6 * k + j)) / x2)) (by omega) (by omega) hw
      (fun c hc hc2 => by rw [sL_at, if_neg (by omega)]; exact hr' c (by omega) hc2)
      (fun c hc => by rw [sL_at, if_neg (by omega)]; exact hk' c hc)
    refine ⟨M', ?_, fr1.sL.tr h2, fun i hi => ?_, fun c hc hc2 => ?_⟩
    · rw [← h1, lp_s]
      conv => lhs; unfold F_X3_clear_40
      rw [hw, if_neg (fun h => by have := (nI_ltI (by omega) (by omega)).mp h; omega), if_neg (fun h => hrk ((nI_eq (by omega) (by omega)).mp h)), ix6, ix6, rL_i (by rw [lnL1]; omega), Option.bind_some, rL_i (by rw [lnL1]; omega), Option.bind_some, if_neg (fun h => h0 (by rw [h]; decide)), wL_i (by rw [lnL1]; omega), Option.bind_some, nI_1]
      rfl
    · rw [h3 i (fun c hc hc2 => hi c (by omega) hc2), sL_at, if_neg (fun h => hi j (Nat.le_refl _) (by omega) h.2)]
    · by_cases hcj : c = j
      · subst hcj
        rw [h3 _ (fun c' h1 h2 => by omega), sL_at, if_pos ⟨rfl, rfl⟩]
        exact hq
      · exact h4 c (by omega) hc2
set_option maxHeartbeats 1000000 in
theorem clr_out {N w k : Nat} (hN : 10 ≤ N) (hw5 : w ≤ 5) (hk : k < w) {x2 x4 : Int64} (h0 : x2.toInt ≠ 0) {A Q : Nat → Nat → Int} (h4 : x4.toInt = A k k)
    (hex : ∀ r, r < w → r ≠ k → ∀ c, c ≤ w → A k k * A r c - A r k * A k c = x2.toInt * Q r c) (hb1 : ∀ r, r < w → r ≠ k → ∀ c, c ≤ w → ab (A k k * A r c) ≤ 2 ^ 60) (hb2 : ∀ r, r < w → r ≠ k → ∀ c, c ≤ w → ab (A r k * A k c) ≤ 2 ^ 60) :
    ∀ (d r fuel : Nat) (M : Mm), r + d = w → d < fuel → M.1 7 = nI w → (∀ r', r ≤ r' → r' < w → ∀ c, c ≤ w → (M.2.2 1 (6 * r' + c)).toInt = A r' c) → (∀ c, c ≤ w → (M.2.2 1 (6 * k + c)).toInt = A k c) →
    ∃ M', lpT (fun _ _ _ _ _ => none) (F_X3_clear_14 N) fuel (nI k) x2 x4 (nI r) M = some M' ∧ fr1 M M' ∧ (∀ r', r ≤ r' → r' < w → r' ≠ k → ∀ c, c ≤ w → (M'.2.2 1 (6 * r' + c)).toInt = Q r' c) ∧ ∀ r', r' < r ∨ r' = k → ∀ c, c ≤ w → M'.2.2 1 (6 * r' + c) = M.2.2 1 (6 * r' + c) := by
  intro d
  induction d with
  | zero =>
    intro r fuel M hr hf hw hr' hk'
    obtain ⟨n, rfl, -⟩ := fuel_s hf
    refine ⟨M, ?_, fr1.rf, fun r' h1 h2 => by omega, fun _ _ _ _ => rfl⟩
    rw [lp_s]
    unfold F_X3_clear_14
    rw [hw, if_pos ((nI_leI (by omega) (by omega)).mpr (by omega))]
  | succ d ih =>
    intro r fuel M hr hf hw hr' hk'
    obtain ⟨n, rfl, hn⟩ := fuel_s hf
    have hstep : lpT (fun _ _ _ _ _ => none) (F_X3_clear_14 N) (n + 1) (nI k) x2 x4 (nI r) M = b_X3_clear_40 N (lpT (fun _ _ _ _ _ => none) (F_X3_clear_14 N) n) (nI k) x2 x4 (nI r) (M.2.2 1 (6 * r + k)) (nI 0) M := by
      rw [lp_s]
      conv => lhs; unfold F_X3_clear_14
      rw [hw, if_neg (fun h => by have := (nI_leI (by omega) (by omega)).mp h; omega), ix6, rL_i (by rw [lnL1]; omega), Option.bind_some]
      rfl
    rw [hstep]
    by_cases hrk : r = k
    · subst hrk
      obtain ⟨M', h1, h2, h3, h5⟩ := ih (r + 1) n M (by omega) (by omega) hw (fun r' h1 h2 => hr' r' (by omega) h2) hk'
      refine ⟨M', ?_, h2, fun r' h1 h2 hne => h3 r' (by omega) h2 hne, fun r' h1 => h5 r' (by omega)⟩
      rw [← h1]
      obtain ⟨N', rfl, -⟩ := fuel_s (f := N) (d := 0) (by omega)
      generalize lpT (fun _ _ _ _ _ => none) (F_X3_clear_14 (N' + 1)) n = g
      unfold b_X3_clear_40
      rw [lp_s]
      unfold F_X3_clear_40
      rw [hw, if_neg (fun h => by have := (nI_ltI (by omega) (by omega)).mp h; omega), if_pos rfl, nI_1]
    · obtain ⟨Mi, g1, g2, g3, g4⟩ := clr_in (N := N) hw5 hk (by omega : r < w) hrk h0 (lpT (fun _ _ _ _ _ => none) (F_X3_clear_14 N) n) (A := A) (q := Q r) (x4 := x4) (x7 := M.2.2 1 (6 * r + k))
        (fun c hc => by rw [h4, hr' r (Nat.le_refl _) (by omega) k (by omega)]; exact hex r (by omega) hrk c hc) (fun c hc => by rw [h4]; exact hb1 r (by omega) hrk c hc) (fun c hc => by rw [hr' r (Nat.le_refl _) (by omega) k (by omega)]; exact hb2 r (by omega) hrk c hc)
        (w + 1) 0 N M (by omega) (by omega) hw (fun c _ hc => hr' r (Nat.le_refl _) (by omega) c hc) hk'
      obtain ⟨M', h1, h2, h3, h5⟩ := ih (r + 1) n Mi (by omega) (by omega) (by rw [g2.1]; exact hw) (fun r' h1 h2 c hc => by rw [g3 _ (fun c' _ _ => by omega)]; exact hr' r' (by omega) h2 c hc) (fun c hc => by rw [g3 _ (fun c' _ _ => by omega)]; exact hk' c hc)
      refine ⟨M', ?_, g2.tr h2, fun r' h1 h2 hne c hc => ?_, fun r' h1 c hc => ?_⟩
      · exact g1.trans h1
      · by_cases e : r' = r
        · subst e
          rw [h5 r' (Or.inl (by omega)) c hc]
          exact g4 c (Nat.zero_le _) hc
        · exact h3 r' (by omega) h2 hne c hc
      · rw [h5 r' (by omega) c hc, g3 _ (fun c' _ _ => by omega)]
theorem clr {N w k : Nat} (hN : 10 ≤ N) (hw5 : w ≤ 5) (hk : k < w) {x2 : Int64} (h0 : x2.toInt ≠ 0) {A Q : Nat → Nat → Int} {M : Mm} (hw : M.1 7 = nI w) (hm : mt M w A)
    (hex : ∀ r, r < w → r ≠ k → ∀ c, c ≤ w → A k k * A r c - A r k * A k c = x2.toInt * Q r c) (hb1 : ∀ r, r < w → r ≠ k → ∀ c, c ≤ w → ab (A k k * A r c) ≤ 2 ^ 60) (hb2 : ∀ r, r < w → r ≠ k → ∀ c, c ≤ w → ab (A r k * A k c) ≤ 2 ^ 60) :
    ∃ M', f_X3_clear N (nI k) x2 M = some M' ∧ fr1 M M' ∧ mt M' w (fun r c => if r = k then A k c else Q r c) := by
  obtain ⟨M', h1, h2, h3, h5⟩ := clr_out (N := N) hN hw5 hk h0 (x4 := M.2.2 1 (6 * k + k)) (hm k hk k (by omega)) hex hb1 hb2 w 0 N M (by omega) (by omega) hw (fun r' _ h2 c hc => hm r' h2 c hc) (fun c hc => hm k hk c hc)
  refine ⟨M', ?_, h2, fun r hr c hc => ?_⟩
  · unfold f_X3_clear b_X3_clear_0
    rw [ix7, show 7 * k = 6 * k + k by omega, rL_i (by rw [lnL1]; omega), Option.bind_some]
    exact h1
  · by_cases e : r = k
    · subst e
      rw [h5 r (Or.inr rfl) c hc]
      show _ = if r = r then _ else _
      rw [if_pos rfl]
      exact hm r hr c hc
    · show _ = if r = k then _ else _
      rw [if_neg e]
      exact h3 r (Nat.zero_le _) hr e c hc
set_option maxHeartbeats 1000000 in
theorem swp_in {N w a b : Nat} (hw5 : w ≤ 5) (ha : a < w) (hb : b < w) :
    ∀ (d j fuel : Nat) (M : Mm), j + d = w + 1 → d < fuel → M.1 7 = nI w →
    ∃ M', lpT (fun _ _ _ _ => none) (F_X3_swap_2 N) fuel (nI a) (nI b) (nI j) M = some M' ∧ fr1 M M' ∧ (∀ r c, r < 5 → c < 6 → M'.2.2 1 (6 * r + c) = if j ≤ c ∧ c ≤ w then M.2.2 1 (6 * (if r = a then b else if r = b then a else r) + c) else M.2.2 1 (6 * r + c)) := by
  intro d
  induction d with
  | zero =>
    intro j fuel M hj hf hw
    obtain ⟨n, rfl, -⟩ := fuel_s hf
    refine ⟨M, ?_, fr1.rf, fun r c _ _ => by rw [if_neg (by omega)]⟩
    rw [lp_s]
    unfold F_X3_swap_2
    rw [hw, if_pos ((nI_ltI (by omega) (by omega)).mpr (by omega))]
  | succ d ih =>
    intro j fuel M hj hf hw
    obtain ⟨n, rfl, hn⟩ := fuel_s hf
    obtain ⟨M', h1, h2, h3⟩ := ih (j + 1) n (sL (sL M 1 (6 * a + j) (M.2.2 1 (6 * b + j))) 1 (6 * b + j) (M.2.2 1 (6 * a + j))) (by omega) (by omega) hw
    refine ⟨M', ?_, (fr1.sL.tr fr1.sL).tr h2, fun r c hr hc => ?_⟩
    · rw [← h1, lp_s]
      conv => lhs; unfold F_X3_swap_2
      rw [hw, if_neg (fun h => by have := (nI_ltI (by omega) (by omega)).mp h; omega), ix6, ix6, rL_i (by rw [lnL1]; omega), Option.bind_some, rL_i (by rw [lnL1]; omega), Option.bind_some, wL_i (by rw [lnL1]; omega), Option.bind_some, wL_i (by rw [lnL1]; omega), Option.bind_some, nI_1]
      rfl
    · rw [h3 r c hr hc]
      by_cases hcj : c = j
      · subst hcj
        rw [if_neg (by omega), if_pos ⟨Nat.le_refl _, by omega⟩, sL_at, sL_at]
        by_cases e1 : r = a
        · subst e1
          by_cases e2 : r = b
          · subst e2; simp
          · rw [if_neg (by omega), if_pos ⟨rfl, rfl⟩, if_pos rfl]
        · by_cases e2 : r = b
          · subst e2
            rw [if_pos ⟨rfl, rfl⟩, if_neg e1, if_pos rfl]
          · rw [if_neg (by omega), if_neg (by omega), if_neg e1, if_neg e2]
      · by_cases hin : j + 1 ≤ c ∧ c ≤ w
        · generalize (if r = a then b else if r = b then a else r) = t
          rw [if_pos hin, if_pos (by omega), sL_at, sL_at, if_neg (by omega), if_neg (by omega)]
        · rw [if_neg hin, if_neg (by omega), sL_at, sL_at, if_neg (by omega), if_neg (by omega)]
theorem swp {N w a b : Nat} (hN : 10 ≤ N) (hw5 : w ≤ 5) (ha : a < w) (hb : b < w) {M : Mm} (hw : M.1 7 = nI w) {A : Nat → Nat → Int} (hm : mt M w A) :
    ∃ M', f_X3_swap N (nI a) (nI b) M = some M' ∧ fr1 M M' ∧ mt M' w (fun r c => A (if r = a then b else if r = b then a else r) c) := by
  obtain ⟨M', h1, h2, h3⟩ := swp_in (N := N) hw5 ha hb (w + 1) 0 N M (by omega) (by omega) hw
  refine ⟨M', h1, h2, fun r hr c hc => ?_⟩
  rw [h3 r c (by omega) (by omega), if_pos ⟨Nat.zero_le _, hc⟩]
  exact hm _ (by split; · exact hb
                 · split
                   · exact ha
                   · exact hr) c hc
