set_option maxHeartbeats 1000000 in
theorem su237 {N n b : Nat} (hn : n ≤ 4) (hb : b < 9) : ∀ (d j fuel : Nat) (M : Mm), j + d = n → d < fuel → M.1 4 = nI n → M.1 8 = nI (b + 1) →
    ∃ M', lpT (fun _ _ => none) (F_X3_setUp_237 N) fuel (nI j) M = some M' ∧ M'.1 = M.1 ∧ fr2 M M' ∧ low M M' b ∧ (∀ c, c < 5 → M'.2.1 11 (5 * b + c) = if j ≤ c ∧ c < n then 1 else M.2.1 11 (5 * b + c)) ∧ M'.2.1 12 = M.2.1 12 ∧ M'.2.1 13 = M.2.1 13 := by
  intro d
  induction d with
  | zero =>
    intro j fuel M hj hfu h4 h8
    obtain ⟨g, rfl, -⟩ := fuel_s hfu
    have hjn : j = n := by omega
    subst hjn
    refine ⟨M, ?_, rfl, fr2.rf, low.rf, fun c hc => by rw [if_neg (by omega)], rfl, rfl⟩
    rw [lp_s]
    unfold F_X3_setUp_237
    rw [h4, if_pos (Int32.le_refl _)]
  | succ d ih =>
    intro j fuel M hj hfu h4 h8
    obtain ⟨g, rfl, hg⟩ := fuel_s hfu
    obtain ⟨M', h1, h2, h3, h5, h6, h7, h9⟩ := ih (j + 1) g (sA M 11 (5 * b + j) 1) (by omega) (by omega) h4 h8
    refine ⟨M', ?_, h2, (fr2.sA (Or.inl rfl)).tr h3, low.tr ⟨fun q hq => ?_, fun q hq => ?_, fun q hq => ?_⟩ h5, fun c hc => ?_, h7.trans (sA_ne (by decide)), h9.trans (sA_ne (by decide))⟩
    · rw [← h1, lp_s]
      generalize lpT (fun _ _ => none) (F_X3_setUp_237 N) g = q
      unfold F_X3_setUp_237
      rw [h4, if_neg (fun h => by have := (nI_leI (by omega) (by omega)).mp h; omega), h8, ix5s, wA_i (by rw [lnA11]; omega), Option.bind_some, nI_1]
    · rw [sA_at, if_neg (by omega)]
    · rw [sA_ne (by decide)]
    · rw [sA_ne (by decide)]
    · rw [h6 c hc, sA_at]
      by_cases e : c = j
      · subst e
        rw [if_neg (by omega), if_pos (show 11 = 11 ∧ 5 * b + c = 5 * b + c from ⟨rfl, rfl⟩), if_pos (by omega)]
      · by_cases e2 : j + 1 ≤ c ∧ c < n
        · rw [if_pos e2, if_pos (by omega)]
        · rw [if_neg e2, if_neg (show ¬ (j ≤ c ∧ c < n) by omega), if_neg (show ¬ (11 = 11 ∧ 5 * b + c = 5 * b + j) by omega)]
/-- behind the rows: the bounds x(j) ≥ 0, and the last bound of a mode -/
def lastR (n : Nat) (x2 : Int32) : Nat → Int := if x2 = 2 then fun c => if c = n then 1 else 0 else fun c => if c < n then 1 else 0
def lastS (x2 : Int32) : Int32 := if x2 = 2 then 0 else 1
theorem low.u {M M' M'' : Mm} {a b : Nat} (h : low M M' a) (hab : a ≤ b) (h' : low M' M'' b) : low M M'' a := h.tr (h'.le hab)
set_option maxHeartbeats 1000000 in
theorem su158 {N n w R : Nat} (hN : 10 ≤ N) (hn : n ≤ 4) (hw5 : w ≤ 5) (hR : R ≤ 3) (x2 : Int32) (hx : (x2 = 2 ∧ w = n + 1) ∨ ((x2 = 0 ∨ x2 = 1) ∧ w = n)) : ∀ (d j fuel : Nat) (M : Mm), j + d = w → d < fuel → M.1 4 = nI n → M.1 7 = nI w → M.1 8 = nI (R + j) →
    ∃ M', lpT (fun _ _ _ => none) (F_X3_setUp_158 N) fuel x2 (nI j) M = some M' ∧ M'.1 8 = nI (if x2 = 0 then R + w else R + w + 1) ∧ fr2 M M' ∧ low M M' (R + j) ∧ (∀ j', j ≤ j' → j' < w → RW M' (R + j') (fun c => if c = j' then 1 else 0) 2 0) ∧ (x2 ≠ 0 → RW M' (R + w) (lastR n x2) (lastS x2) 1) := by
  intro d
  induction d with
  | zero =>
    intro j fuel M hj hfu h4 h7 h8
    obtain ⟨g, rfl, -⟩ := fuel_s hfu
    have hjw : j = w := by omega
    subst hjw
    rw [lp_s]
    generalize lpT (fun _ _ _ => none) (F_X3_setUp_158 N) g = q
    unfold F_X3_setUp_158
    rw [h7, if_pos (Int32.le_refl _)]
    rcases hx with ⟨rfl, hw⟩ | ⟨hx, hw⟩
    · rw [if_pos rfl]
      obtain ⟨M', a1, a2, a3, a4, a5⟩ := add_u (N := N) (b := R + j) (j := n) hN (by omega) (by omega) 0 1 h8 (fun M223 => b_X3_setUp_224 N 2 M223)
      refine ⟨M', ?_, by rw [if_neg (by decide)]; exact a2, a3, a4, fun j' q1 q2 => by omega, fun _ => ?_⟩
      · refine Eq.trans ?_ (a1.trans ?_)
        · obtain ⟨Ma, b1, b2, b3, -⟩ := add_s (N := N) hN (show R + j < 9 by omega) 0 1 h8
          rw [b1, Option.bind_some, Option.bind_some, b3.1 4 (by decide), h4]
        · unfold b_X3_setUp_224
          rw [if_neg (by decide)]
      · unfold lastR lastS
        rw [if_pos rfl, if_pos rfl]
        exact a5
    · have hx2 : ¬ x2 = 2 := by rcases hx with rfl | rfl <;> decide
      rw [if_neg hx2]
      unfold b_X3_setUp_224
      rcases hx with rfl | rfl
      · rw [if_neg (by decide)]
        exact ⟨M, rfl, by rw [if_pos rfl]; exact h8, fr2.rf, low.rf, fun j' q1 q2 => by omega, fun h => absurd rfl h⟩
      · rw [if_pos rfl]
        obtain ⟨M1, a1, a2, a3, a4, a5, a6⟩ := add_s (N := N) hN (show R + j < 9 by omega) 1 1 h8
        obtain ⟨M', s1, s2, s3, s4, s5, s6, s7⟩ := su237 (N := N) hn (show R + j < 9 by omega) n 0 N M1 (by omega) (by omega) (by rw [a3.1 4 (by decide)]; exact h4) a2
        refine ⟨M', ?_, by rw [if_neg (by decide), s2]; exact a2, a3.tr s3, low.tr ⟨fun q hq => by rw [a4, if_neg (by omega)], fun q hq => by rw [a5, if_neg (by omega)], fun q hq => by rw [a6, if_neg (by omega)]⟩ s4, fun j' q1 q2 => by omega, fun _ => ⟨fun c hc => ?_, ?_, ?_⟩⟩
        · rw [a1, Option.bind_some]
          exact s1
        · rw [s5 c hc, a4]
          rw [show lastR n 1 = (fun c => if c < n then 1 else 0) from if_neg (by decide)]
          show _ = if c < n then (1 : Int) else 0
          by_cases e : c < n
          · rw [if_pos (show 0 ≤ c ∧ c < n from ⟨Nat.zero_le _, e⟩), if_pos e]; decide
          · rw [if_neg (show ¬ (0 ≤ c ∧ c < n) from fun h => e h.2), if_pos (show 5 * (R + j) ≤ 5 * (R + j) + c ∧ 5 * (R + j) + c < 5 * (R + j) + 5 by omega), if_neg e]; decide
        · rw [s6, a5, if_pos rfl]
          rfl
        · rw [s7, a6, if_pos rfl]
          decide
  | succ d ih =>
    intro j fuel M hj hfu h4 h7 h8
    obtain ⟨g, rfl, hg⟩ := fuel_s hfu
    obtain ⟨M1, a1, a2, a3, a4, a5⟩ := add_u (N := N) (b := R + j) (j := j) hN (by omega) (by omega) 2 0 h8 (fun M187 => lpT (fun _ _ _ => none) (F_X3_setUp_158 N) g x2 (nI (j + 1)) M187)
    obtain ⟨M', h1, h2, h3, h5, h6, h9⟩ := ih (j + 1) g M1 (by omega) (by omega) (by rw [a3.1 4 (by decide)]; exact h4) (by rw [a3.1 7 (by decide)]; exact h7) a2
    refine ⟨M', ?_, h2, a3.tr h3, a4.u (by omega) h5, fun j' q1 q2 => ?_, h9⟩
    · rw [← h1]
      refine Eq.trans ?_ a1
      rw [lp_s]
      generalize lpT (fun _ _ _ => none) (F_X3_setUp_158 N) g = q
      unfold F_X3_setUp_158
      rw [h7, if_neg (fun h => by have := (nI_leI (by omega) (by omega)).mp h; omega), nI_1]
    · by_cases e : j' = j
      · subst e
        exact a5.kept (b := R + (j' + 1)) (by omega) h5.1 h5.2.1 h5.2.2
      · exact h6 j' (by omega) q2
set_option maxHeartbeats 1000000 in
theorem su {N n m mask : Nat} (hN : 10 ≤ N) (hn : n ≤ 4) (hm : m ≤ 3) (hk : mask < 2 ^ 31) (x2 : Int32) {w : Nat} (hx : (x2 = 2 ∧ w = n + 1) ∨ ((x2 = 0 ∨ x2 = 1) ∧ w = n)) {M : Mm} (h4 : M.1 4 = nI n) (h5 : M.1 5 = nI m) (he : ∀ i, i < m → ab (M.2.1 9 i).toInt ≤ 9) :
    ∃ M', f_X3_setUp N (nI mask) x2 M = some M' ∧ M'.1 7 = nI w ∧ M'.1 8 = nI (if x2 = 0 then ct mask m + w else ct mask m + w + 1) ∧ (∀ k, k ≠ 7 → k ≠ 8 → M'.1 k = M.1 k) ∧ (∀ k, k ≠ 11 → k ≠ 12 → k ≠ 13 → M'.2.1 k = M.2.1 k) ∧ M'.2.2 = M.2.2 ∧
      (∀ i, i < m → bt mask i → RW M' (ct mask i) (rowZ M n x2 i) (M.2.1 10 i) (rgtZ M x2 i)) ∧ (∀ j, j < w → RW M' (ct mask m + j) (fun c => if c = j then 1 else 0) 2 0) ∧ (x2 ≠ 0 → RW M' (ct mask m + w) (lastR n x2) (lastS x2) 1) := by
  obtain ⟨M0, hM0⟩ : ∃ M0, M0 = wI (wI M 7 (nI w)) 8 (nI 0) := ⟨_, rfl⟩
  have e0 : ∀ k, k ≠ 7 → k ≠ 8 → M0.1 k = M.1 k := fun k h1 h2 => by rw [hM0]; show upd (upd M.1 7 (nI w)) 8 (nI 0) k = _; rw [pk_un h2, pk_un h1]
  have e7 : M0.1 7 = nI w := by rw [hM0]; show upd (upd M.1 7 (nI w)) 8 (nI 0) 7 = _; rw [pk_un (by decide), pk_us]
  have e8 : M0.1 8 = nI 0 := by rw [hM0]; exact pk_us (f := upd M.1 7 (nI w)) (k := 8)
  have eA : M0.2.1 = M.2.1 := by rw [hM0]
  have eL : M0.2.2 = M.2.2 := by rw [hM0]
  have hlm := ct_le mask m
  obtain ⟨M1, a1, a2, a3, a4, a5⟩ := su29 (N := N) hN hn hm hk x2 m 0 N M0 (by omega) (by omega) (by rw [e0 4 (by decide) (by decide)]; exact h4) (by rw [e0 5 (by decide) (by decide)]; exact h5) e8 (fun i hi => by rw [eA]; exact he i hi)
  obtain ⟨M', s1, s2, s3, s4, s5, s6⟩ := su158 (N := N) (R := ct mask m) hN hn (show w ≤ 5 by omega) (by omega) x2 hx w 0 N M1 (by omega) (by omega) (by rw [a3.1 4 (by decide), e0 4 (by decide) (by decide)]; exact h4) (by rw [a3.1 7 (by decide)]; exact e7) a2
  refine ⟨M', ?_, ?_, s2, fun k h1 h2 => ?_, fun k h1 h2 h3 => ?_, ?_, fun i hi hb => ?_, fun j hj => s5 j (Nat.zero_le _) hj, s6⟩
  · unfold f_X3_setUp b_X3_setUp_0
    rw [h4]
    have hgo : b_X3_setUp_19 N (nI mask) x2 (nI w) M = some M' := by
      unfold b_X3_setUp_19
      rw [show wI (wI M 7 (nI w)) 8 0 = M0 from hM0.symm]
      exact a1.trans s1
    rcases hx with ⟨rfl, hw⟩ | ⟨hx, hw⟩
    · rw [if_pos rfl, nI_1, ← hw]; exact hgo
    · rw [if_neg (by rcases hx with rfl | rfl <;> decide), ← hw]; exact hgo
  · rw [s3.1 7 (by decide), a3.1 7 (by decide)]; exact e7
  · rw [s3.1 k h2, a3.1 k h2, e0 k h1 h2]
  · rw [s3.2.1 k h1 h2 h3, a3.2.1 k h1 h2 h3, eA]
  · rw [s3.2.2, a3.2.2, eL]
  · have h := a5 i (Nat.zero_le _) hi hb
    have h2 := h.kept (b := ct mask m) (ct_lt hb hi) s4.1 s4.2.1 s4.2.2
    unfold rgtZ rowZ at h2 ⊢
    rw [eA] at h2
    exact h2
