/-! THE REFERENCE: add, setUp -/
/-- bound k: its numbers (five), its sense, its right side -/
def RW (M : Mm) (k : Nat) (row : Nat → Int) (s : Int32) (r : Int) : Prop := (∀ c, c < 5 → (M.2.1 11 (5 * k + c)).toInt = row c) ∧ M.2.1 12 k = s ∧ (M.2.1 13 k).toInt = r
/-- nothing but the bounds has changed -/
def fr2 (M M' : Mm) : Prop := (∀ k, k ≠ 8 → M'.1 k = M.1 k) ∧ (∀ k, k ≠ 11 → k ≠ 12 → k ≠ 13 → M'.2.1 k = M.2.1 k) ∧ M'.2.2 = M.2.2
theorem fr2.rf {M : Mm} : fr2 M M := ⟨fun _ _ => rfl, fun _ _ _ _ => rfl, rfl⟩
theorem fr2.tr {M M' M'' : Mm} (h : fr2 M M') (h' : fr2 M' M'') : fr2 M M'' := ⟨fun k hk => (h'.1 k hk).trans (h.1 k hk), fun k a b c => (h'.2.1 k a b c).trans (h.2.1 k a b c), h'.2.2.trans h.2.2⟩
theorem fr2.sA {M : Mm} {k i : Nat} {x : Int32} (h : k = 11 ∨ k = 12 ∨ k = 13) : fr2 M (sA M k i x) := ⟨fun _ _ => rfl, fun _ h1 h2 h3 => sA_ne (by omega), rfl⟩
theorem fr2.w8 {M : Mm} {x : Int32} : fr2 M (wI M 8 x) := ⟨fun _ hk => pk_un hk, fun _ _ _ _ => rfl, rfl⟩
set_option maxHeartbeats 1000000 in
theorem add_in {N b : Nat} (hb : b < 9) (s r : Int32) : ∀ (d j fuel : Nat) (M : Mm), j + d = 5 → d < fuel → M.1 8 = nI b →
    ∃ M', lpT (fun _ _ _ _ => none) (F_X3_add_2 N) fuel s r (nI j) M = some M' ∧ M'.1 8 = nI (b + 1) ∧ fr2 M M' ∧ (∀ i, M'.2.1 11 i = if 5 * b + j ≤ i ∧ i < 5 * b + 5 then 0 else M.2.1 11 i) ∧ (∀ i, M'.2.1 12 i = if i = b then s else M.2.1 12 i) ∧ ∀ i, M'.2.1 13 i = if i = b then r else M.2.1 13 i := by
  intro d
  induction d with
  | zero =>
    intro j fuel M hj hfu h8
    obtain ⟨g, rfl, -⟩ := fuel_s hfu
    have hj5 : j = 5 := by omega
    subst hj5
    refine ⟨wI (sA (sA M 12 b s) 13 b r) 8 (nI (b + 1)), ?_, pk_us (f := M.1) (k := 8), ((fr2.sA (Or.inr (Or.inl rfl))).tr (fr2.sA (Or.inr (Or.inr rfl)))).tr fr2.w8, fun i => ?_, fun i => ?_, fun i => ?_⟩
    · rw [lp_s]
      unfold F_X3_add_2
      rw [if_pos (by decide), h8, wA_i (by rw [lnA12]; omega), Option.bind_some, show (sA M 12 b s).1 8 = nI b from h8, wA_i (by rw [lnA13]; omega), Option.bind_some, show (sA (sA M 12 b s) 13 b r).1 8 = nI b from h8, nI_1]
    · show (sA (sA M 12 b s) 13 b r).2.1 11 i = _
      rw [sA_ne (by decide), sA_ne (by decide), if_neg (by omega)]
    · show (sA (sA M 12 b s) 13 b r).2.1 12 i = _
      rw [sA_ne (by decide), sA_at]
      by_cases e : i = b
      · rw [if_pos ⟨rfl, e⟩, if_pos e]
      · rw [if_neg (fun h => e h.2), if_neg e]
    · show (sA (sA M 12 b s) 13 b r).2.1 13 i = _
      rw [sA_at]
      by_cases e : i = b
      · rw [if_pos ⟨rfl, e⟩, if_pos e]
      · rw [if_neg (fun h => e h.2), if_neg e, sA_ne (by decide)]
  | succ d ih =>
    intro j fuel M hj hfu h8
    obtain ⟨g, rfl, hg⟩ := fuel_s hfu
    obtain ⟨M', h1, h2, h3, h4, h5, h6⟩ := ih (j + 1) g (sA M 11 (5 * b + j) 0) (by omega) (by omega) h8
    refine ⟨M', ?_, h2, (fr2.sA (Or.inl rfl)).tr h3, fun i => ?_, fun i => ?_, fun i => ?_⟩
    · rw [← h1, lp_s]
      generalize lpT (fun _ _ _ _ => none) (F_X3_add_2 N) g = q
      unfold F_X3_add_2
      rw [if_neg (fun h => by have := (nI_leI (a := 5) (by omega) (by omega)).mp h; omega), h8, ix5, wA_i (by rw [lnA11]; omega), Option.bind_some, nI_1]
    · rw [h4 i, sA_at]
      by_cases e : i = 5 * b + j
      · rw [if_neg (by omega), if_pos ⟨rfl, e⟩, if_pos (by omega)]
      · by_cases e2 : 5 * b + (j + 1) ≤ i ∧ i < 5 * b + 5
        · rw [if_pos e2, if_pos (by omega)]
        · rw [if_neg e2, if_neg (fun h => e h.2), if_neg (by omega)]
    · rw [h5 i, sA_ne (by decide)]
    · rw [h6 i, sA_ne (by decide)]
theorem add_s {N b : Nat} (hN : 10 ≤ N) (hb : b < 9) (s r : Int32) {M : Mm} (h8 : M.1 8 = nI b) : ∃ M', f_X3_add N s r M = some M' ∧ M'.1 8 = nI (b + 1) ∧ fr2 M M' ∧ (∀ i, M'.2.1 11 i = if 5 * b ≤ i ∧ i < 5 * b + 5 then 0 else M.2.1 11 i) ∧ (∀ i, M'.2.1 12 i = if i = b then s else M.2.1 12 i) ∧ ∀ i, M'.2.1 13 i = if i = b then r else M.2.1 13 i :=
  add_in (N := N) hb s r 5 0 N M (by omega) (by omega) h8
theorem RW.kept {M M' : Mm} {k b : Nat} {row : Nat → Int} {s : Int32} {r : Int} (h : RW M k row s r) (hk : k < b) (h1 : ∀ i, i < 5 * b → M'.2.1 11 i = M.2.1 11 i) (h2 : ∀ i, i < b → M'.2.1 12 i = M.2.1 12 i) (h3 : ∀ i, i < b → M'.2.1 13 i = M.2.1 13 i) : RW M' k row s r :=
  ⟨fun c hc => by rw [h1 _ (by omega)]; exact h.1 c hc, by rw [h2 _ hk]; exact h.2.1, by rw [h3 _ hk]; exact h.2.2⟩
/-- the earlier bounds stay -/
def low (M M' : Mm) (b : Nat) : Prop := (∀ i, i < 5 * b → M'.2.1 11 i = M.2.1 11 i) ∧ (∀ i, i < b → M'.2.1 12 i = M.2.1 12 i) ∧ ∀ i, i < b → M'.2.1 13 i = M.2.1 13 i
theorem low.rf {M : Mm} {b : Nat} : low M M b := ⟨fun _ _ => rfl, fun _ _ => rfl, fun _ _ => rfl⟩
theorem low.tr {M M' M'' : Mm} {b : Nat} (h : low M M' b) (h' : low M' M'' b) : low M M'' b := ⟨fun i hi => (h'.1 i hi).trans (h.1 i hi), fun i hi => (h'.2.1 i hi).trans (h.2.1 i hi), fun i hi => (h'.2.2 i hi).trans (h.2.2 i hi)⟩
theorem low.le {M M' : Mm} {a b : Nat} (h : low M M' b) (hab : a ≤ b) : low M M' a := ⟨fun i hi => h.1 i (by omega), fun i hi => h.2.1 i (by omega), fun i hi => h.2.2 i (by omega)⟩
/-- a bound with 1 at column j alone is added -/
theorem add_u {N b j : Nat} (hN : 10 ≤ N) (hb : b < 9) (hj : j < 5) (s r : Int32) {M : Mm} (h8 : M.1 8 = nI b) (K : Mm → Option Mm) :
    ∃ M', ((f_X3_add N s r M).bind fun M169 => (wA M169 11 (((5 * (M169.1 8)) - 5) + nI j) 1).bind K) = K M' ∧ M'.1 8 = nI (b + 1) ∧ fr2 M M' ∧ low M M' b ∧ RW M' b (fun c => if c = j then 1 else 0) s r.toInt := by
  obtain ⟨M1, a1, a2, a3, a4, a5, a6⟩ := add_s (N := N) hN hb s r h8
  refine ⟨sA M1 11 (5 * b + j) 1, ?_, a2, a3.tr (fr2.sA (Or.inl rfl)), ⟨fun i hi => ?_, fun i hi => ?_, fun i hi => ?_⟩, fun c hc => ?_, ?_, ?_⟩
  · rw [a1, Option.bind_some, a2, ix5s, wA_i (by rw [lnA11]; omega), Option.bind_some]
  · rw [sA_at, if_neg (by omega), a4, if_neg (by omega)]
  · rw [sA_ne (by decide), a5, if_neg (by omega)]
  · rw [sA_ne (by decide), a6, if_neg (by omega)]
  · rw [sA_at]
    show _ = if c = j then (1 : Int) else 0
    by_cases e : c = j
    · subst e; rw [if_pos ⟨rfl, rfl⟩, if_pos rfl]; decide
    · rw [if_neg (by omega), a4, if_pos (by omega), if_neg e]; decide
  · rw [sA_ne (by decide), a5, if_pos rfl]
  · rw [sA_ne (by decide), a6, if_pos rfl]
