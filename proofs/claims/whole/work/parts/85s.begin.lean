section Sb
variable {M M' : Mm} {n m mask cn : Nat} {a : Nat → Nat → Int} {b e cc : Nat → Int} {sn : Nat → Int32}
theorem clr41 {N i : Nat} (hi : i < 3) (k12 : Int32 → Mm → Option Mm) : ∀ (d c fuel : Nat) (M : Mm), c + d = 6 → d < fuel → (∀ c', c' < c → M.2.2 (6 + i) c' = 0) →
    ∃ M', lpT (fun _ _ _ => none) (F_X1_clear_41 N k12) fuel (nI i) (nI c) M = k12 (nI (i + 1)) M' ∧ M'.1 = M.1 ∧ M'.2.1 = M.2.1 ∧ (∀ κ, κ ≠ 6 + i → M'.2.2 κ = M.2.2 κ) ∧ ∀ c', c' < 6 → M'.2.2 (6 + i) c' = 0 := by
  intro d
  induction d with
  | zero =>
    intro c fuel M hc hf h0
    obtain ⟨g, rfl, hg⟩ := fuel_s hf
    rw [lp_s]
    generalize lpT (fun _ _ _ => none) (F_X1_clear_41 N k12) g = q
    have q6 : (6 : Int32) ≤ nI c := nI_le (a := 6) (by omega) (by omega)
    unfold F_X1_clear_41
    rw [if_pos q6, nI_1]
    exact ⟨M, rfl, rfl, rfl, fun _ _ => rfl, fun c' hc' => h0 c' (by omega)⟩
  | succ d ih =>
    intro c fuel M hc hf h0
    obtain ⟨g, rfl, hg⟩ := fuel_s hf
    rw [lp_s]
    obtain ⟨M', a1, a2, a3, a4, a5⟩ := ih (c + 1) g (sL M (6 + i) c 0) (by omega) (by omega) (fun c' hc' => by
      rw [sL_at]
      by_cases q : c' = c
      · rw [if_pos ⟨rfl, q⟩]
      · rw [if_neg (fun z => q z.2)]; exact h0 c' (by omega))
    refine ⟨M', ?_, a2, a3, fun κ hκ => (a4 κ hκ).trans (sL_ne hκ), a5⟩
    generalize lpT (fun _ _ _ => none) (F_X1_clear_41 N k12) g = q at a1 ⊢
    have q6 : ¬ (6 : Int32) ≤ nI c := nI_ge (b := 6) (by omega) (by omega)
    unfold F_X1_clear_41
    rw [if_neg q6, rO0 hi, Option.bind_some, wL_i (by rw [lnE i hi]; omega), Option.bind_some, nI_1]
    exact a1
theorem clr72 {N : Nat} : ∀ (d j fuel : Nat) (M : Mm), j + d = 4 → d < fuel → (∀ j', j' < j → M.2.1 3 j' = 0) →
    ∃ M', lpT (fun _ _ => none) (F_X1_clear_72 N) fuel (nI j) M = some M' ∧ M'.1 = M.1 ∧ M'.2.2 = M.2.2 ∧ (∀ k, k ≠ 3 → M'.2.1 k = M.2.1 k) ∧ ∀ j', j' < 4 → M'.2.1 3 j' = 0 := by
  intro d
  induction d with
  | zero =>
    intro c fuel M hc hf h0
    obtain ⟨g, rfl, hg⟩ := fuel_s hf
    rw [lp_s]
    generalize lpT (fun _ _ => none) (F_X1_clear_72 N) g = q
    have q6 : (4 : Int32) ≤ nI c := nI_le (a := 4) (by omega) (by omega)
    unfold F_X1_clear_72
    rw [if_pos q6]
    exact ⟨M, rfl, rfl, rfl, fun _ _ => rfl, fun c' hc' => h0 c' (by omega)⟩
  | succ d ih =>
    intro c fuel M hc hf h0
    obtain ⟨g, rfl, hg⟩ := fuel_s hf
    rw [lp_s]
    obtain ⟨M', a1, a2, a3, a4, a5⟩ := ih (c + 1) g (sA M 3 c 0) (by omega) (by omega) (fun c' hc' => by
      rw [sA_at]
      by_cases q : c' = c
      · rw [if_pos ⟨rfl, q⟩]
      · rw [if_neg (fun z => q z.2)]; exact h0 c' (by omega))
    refine ⟨M', ?_, a2, a3, fun k hk => (a4 k hk).trans (sA_ne hk), a5⟩
    generalize lpT (fun _ _ => none) (F_X1_clear_72 N) g = q at a1 ⊢
    have q6 : ¬ (4 : Int32) ≤ nI c := nI_ge (b := 4) (by omega) (by omega)
    unfold F_X1_clear_72
    rw [if_neg q6, wA_i (by rw [lnA3]; omega), Option.bind_some, nI_1]
    exact a1
def Z0 (M : Mm) (i : Nat) : Prop := M.2.1 0 i = 0 ∧ M.2.1 1 i = 0 ∧ M.2.1 2 i = 0 ∧ ∀ c, c < 6 → M.2.2 (6 + i) c = 0
theorem sA_z {k i i' : Nat} : (sA M k i 0).2.1 k i' = 0 ↔ i' = i ∨ M.2.1 k i' = 0 := by
  rw [sA_at]
  by_cases q : i' = i
  · rw [if_pos ⟨rfl, q⟩]; exact ⟨fun _ => Or.inl q, fun _ => rfl⟩
  · rw [if_neg (fun z => q z.2)]; exact ⟨fun z => Or.inr z, fun z => z.resolve_left q⟩
theorem clr12 {N : Nat} (hN : 10 ≤ N) : ∀ (d i fuel : Nat) (M : Mm), i + d = 3 → d < fuel → (∀ i', i' < i → Z0 M i') →
    ∃ M', lpT (fun _ _ => none) (F_X1_clear_12 N) fuel (nI i) M = some M' ∧ M'.1 = M.1 ∧ (∀ k, 4 ≤ k → M'.2.1 k = M.2.1 k) ∧ (∀ i', i' < 3 → Z0 M' i') ∧ ∀ j', j' < 4 → M'.2.1 3 j' = 0 := by
  intro d
  induction d with
  | zero =>
    intro i fuel M hc hf h0
    obtain ⟨g, rfl, hg⟩ := fuel_s hf
    rw [lp_s]
    generalize lpT (fun _ _ => none) (F_X1_clear_12 N) g = q
    have q6 : (3 : Int32) ≤ nI i := nI_le (a := 3) (by omega) (by omega)
    obtain ⟨M', a1, a2, a3, a4, a5⟩ := clr72 (N := N) 4 0 N M (by omega) (by omega) (fun j' hj' => by omega)
    unfold F_X1_clear_12
    rw [if_pos q6]
    refine ⟨M', a1, a2, fun k hk => a4 k (by omega), fun i' hi' => ?_, a5⟩
    obtain ⟨z1, z2, z3, z4⟩ := h0 i' (by omega)
    exact ⟨by rw [a4 0 (by decide)]; exact z1, by rw [a4 1 (by decide)]; exact z2, by rw [a4 2 (by decide)]; exact z3, fun c hc' => by rw [a3]; exact z4 c hc'⟩
  | succ d ih =>
    intro i fuel M hc hf h0
    obtain ⟨g, rfl, hg⟩ := fuel_s hf
    rw [lp_s]
    have q6 : ¬ (3 : Int32) ≤ nI i := nI_ge (b := 3) (by omega) (by omega)
    obtain ⟨M4, a1, a2, a3, a4, a5⟩ := clr41 (N := N) (i := i) (by omega) (lpT (fun _ _ => none) (F_X1_clear_12 N) g) 6 0 N (sA (sA (sA M 0 i 0) 1 i 0) 2 i 0) (by omega) (by omega) (fun c' hc' => by omega)
    obtain ⟨M', b1, b2, b3, b4, b5⟩ := ih (i + 1) g M4 (by omega) (by omega) (fun i' hi' => by
      have hk : i' = i ∨ Z0 M i' := by
        by_cases q : i' = i
        · exact Or.inl q
        · exact Or.inr (h0 i' (by omega))
      refine ⟨?_, ?_, ?_, fun c hc' => ?_⟩
      · rw [a3, sA_ne (by decide), sA_ne (by decide)]; exact sA_z.mpr (hk.imp id (fun z => z.1))
      · rw [a3, sA_ne (by decide)]; exact sA_z.mpr (hk.imp id (fun z => by rw [sA_ne (by decide)]; exact z.2.1))
      · rw [a3]; exact sA_z.mpr (hk.imp id (fun z => by rw [sA_ne (by decide), sA_ne (by decide)]; exact z.2.2.1))
      · by_cases q : i' = i
        · rw [q]; exact a5 c hc'
        · rw [a4 (6 + i') (by omega)]; exact (h0 i' (by omega)).2.2.2 c hc')
    refine ⟨M', ?_, b2.trans a2, fun k hk => (b3 k hk).trans (by rw [a3, sA_ne (by omega), sA_ne (by omega), sA_ne (by omega)]), b4, b5⟩
    generalize lpT (fun _ _ => none) (F_X1_clear_12 N) g = q at a1 b1 ⊢
    unfold F_X1_clear_12
    rw [if_neg q6, wA_i (by rw [lnA0]; omega), Option.bind_some, wA_i (by rw [lnA1]; omega), Option.bind_some, wA_i (by rw [lnA2]; omega), Option.bind_some]
    exact Eq.trans a1 b1
def Y0 (M : Mm) (i : Nat) : Prop := M.2.1 7 i = 0 ∧ M.2.1 9 i = 0 ∧ M.2.1 10 i = 0
theorem bg87 {N : Nat} : ∀ (d i fuel : Nat) (M : Mm), i + d = 3 → d < fuel → (∀ i', i' < i → Y0 M i') →
    ∃ M', lpT (fun _ _ => none) (F_X3_begin_87 N) fuel (nI i) M = some M' ∧ M'.1 = M.1 ∧ M'.2.2 = M.2.2 ∧ (∀ k, k ≤ 6 ∨ k = 8 → M'.2.1 k = M.2.1 k) ∧ ∀ i', i' < 3 → Y0 M' i' := by
  intro d
  induction d with
  | zero =>
    intro i fuel M hc hf h0
    obtain ⟨g, rfl, hg⟩ := fuel_s hf
    rw [lp_s]
    generalize lpT (fun _ _ => none) (F_X3_begin_87 N) g = q
    have q6 : (3 : Int32) ≤ nI i := nI_le (a := 3) (by omega) (by omega)
    unfold F_X3_begin_87
    rw [if_pos q6]
    exact ⟨M, rfl, rfl, rfl, fun _ _ => rfl, fun i' hi' => h0 i' (by omega)⟩
  | succ d ih =>
    intro i fuel M hc hf h0
    obtain ⟨g, rfl, hg⟩ := fuel_s hf
    rw [lp_s]
    have q6 : ¬ (3 : Int32) ≤ nI i := nI_ge (b := 3) (by omega) (by omega)
    obtain ⟨M', b1, b2, b3, b4, b5⟩ := ih (i + 1) g (sA (sA (sA M 7 i 0) 9 i 0) 10 i 0) (by omega) (by omega) (fun i' hi' => by
      have hk : i' = i ∨ Y0 M i' := by
        by_cases q : i' = i
        · exact Or.inl q
        · exact Or.inr (h0 i' (by omega))
      refine ⟨?_, ?_, ?_⟩
      · rw [sA_ne (by decide), sA_ne (by decide)]; exact sA_z.mpr (hk.imp id (fun z => z.1))
      · rw [sA_ne (by decide)]; exact sA_z.mpr (hk.imp id (fun z => by rw [sA_ne (by decide)]; exact z.2.1))
      · exact sA_z.mpr (hk.imp id (fun z => by rw [sA_ne (by decide), sA_ne (by decide)]; exact z.2.2)))
    refine ⟨M', ?_, b2, b3, fun k hk => (b4 k hk).trans (by rw [sA_ne (by omega), sA_ne (by omega), sA_ne (by omega)]), b5⟩
    generalize lpT (fun _ _ => none) (F_X3_begin_87 N) g = q at b1 ⊢
    unfold F_X3_begin_87
    rw [if_neg q6, wA_i (by rw [lnA7]; omega), Option.bind_some, wA_i (by rw [lnA9]; omega), Option.bind_some, wA_i (by rw [lnA10]; omega), Option.bind_some, nI_1]
    exact b1
theorem bg67 {N : Nat} (hN : 20 ≤ N) : ∀ (d j fuel : Nat) (M : Mm), j + d = 4 → d < fuel → (∀ j', j' < j → M.2.1 8 j' = 0) →
    ∃ M', lpT (fun _ _ => none) (F_X3_begin_67 N) fuel (nI j) M = some M' ∧ M'.1 = M.1 ∧ M'.2.2 = M.2.2 ∧ (∀ k, k ≤ 6 → M'.2.1 k = M.2.1 k) ∧ (∀ j', j' < 4 → M'.2.1 8 j' = 0) ∧ ∀ i', i' < 3 → Y0 M' i' := by
  intro d
  induction d with
  | zero =>
    intro i fuel M hc hf h0
    obtain ⟨g, rfl, hg⟩ := fuel_s hf
    rw [lp_s]
    generalize lpT (fun _ _ => none) (F_X3_begin_67 N) g = q
    have q6 : (4 : Int32) ≤ nI i := nI_le (a := 4) (by omega) (by omega)
    obtain ⟨M', b1, b2, b3, b4, b5⟩ := bg87 (N := N) 3 0 N M (by omega) (by omega) (fun i' hi' => by omega)
    unfold F_X3_begin_67
    rw [if_pos q6]
    exact ⟨M', b1, b2, b3, fun k hk => b4 k (Or.inl hk), fun j' hj' => by rw [b4 8 (Or.inr rfl)]; exact h0 j' (by omega), b5⟩
  | succ d ih =>
    intro i fuel M hc hf h0
    obtain ⟨g, rfl, hg⟩ := fuel_s hf
    rw [lp_s]
    have q6 : ¬ (4 : Int32) ≤ nI i := nI_ge (b := 4) (by omega) (by omega)
    obtain ⟨M', b1, b2, b3, b4, b5, b6⟩ := ih (i + 1) g (sA M 8 i 0) (by omega) (by omega) (fun j' hj' => sA_z.mpr (by
      by_cases q : j' = i
      · exact Or.inl q
      · exact Or.inr (h0 j' (by omega))))
    refine ⟨M', ?_, b2, b3, fun k hk => (b4 k hk).trans (sA_ne (by omega)), b5, b6⟩
    generalize lpT (fun _ _ => none) (F_X3_begin_67 N) g = q at b1 ⊢
    unfold F_X3_begin_67
    rw [if_neg q6, wA_i (by rw [lnA8]; omega), Option.bind_some, nI_1]
    exact b1
theorem bg46 {N : Nat} (hN : 20 ≤ N) : ∀ (d j fuel : Nat) (M : Mm), j + d = 12 → d < fuel → (∀ j', j' < j → M.2.1 6 j' = 0) →
    ∃ M', lpT (fun _ _ => none) (F_X3_begin_46 N) fuel (nI j) M = some M' ∧ M'.1 = M.1 ∧ M'.2.2 = M.2.2 ∧ (∀ k, k ≤ 5 → M'.2.1 k = M.2.1 k) ∧ (∀ j', j' < 12 → M'.2.1 6 j' = 0) ∧ (∀ j', j' < 4 → M'.2.1 8 j' = 0) ∧ ∀ i', i' < 3 → Y0 M' i' := by
  intro d
  induction d with
  | zero =>
    intro i fuel M hc hf h0
    obtain ⟨g, rfl, hg⟩ := fuel_s hf
    rw [lp_s]
    generalize lpT (fun _ _ => none) (F_X3_begin_46 N) g = q
    have q6 : (12 : Int32) ≤ nI i := nI_le (a := 12) (by omega) (by omega)
    obtain ⟨M', b1, b2, b3, b4, b5, b6⟩ := bg67 (N := N) hN 4 0 N M (by omega) (by omega) (fun i' hi' => by omega)
    unfold F_X3_begin_46
    rw [if_pos q6]
    exact ⟨M', b1, b2, b3, fun k hk => b4 k (by omega), fun j' hj' => by rw [b4 6 (by decide)]; exact h0 j' (by omega), b5, b6⟩
  | succ d ih =>
    intro i fuel M hc hf h0
    obtain ⟨g, rfl, hg⟩ := fuel_s hf
    rw [lp_s]
    have q6 : ¬ (12 : Int32) ≤ nI i := nI_ge (b := 12) (by omega) (by omega)
    obtain ⟨M', b1, b2, b3, b4, b5, b6, b7⟩ := ih (i + 1) g (sA M 6 i 0) (by omega) (by omega) (fun j' hj' => sA_z.mpr (by
      by_cases q : j' = i
      · exact Or.inl q
      · exact Or.inr (h0 j' (by omega))))
    refine ⟨M', ?_, b2, b3, fun k hk => (b4 k hk).trans (sA_ne (by omega)), b5, b6, b7⟩
    generalize lpT (fun _ _ => none) (F_X3_begin_46 N) g = q at b1 ⊢
    unfold F_X3_begin_46
    rw [if_neg q6, wA_i (by rw [lnA6]; omega), Option.bind_some, nI_1]
    exact b1
theorem ab00 : ab 0 = 0 := by decide
theorem t_begin {N : Nat} (hN : 600 ≤ N) (h : INV M n m a b e cc sn) (x1 x2 : Int32) : SET (f_L_begin N x1 x2 M) (f_X3_begin N x1 x2) := by
  have k0 : (0 : Int32).toInt = 0 := i0
  have k1 : (1 : Int32).toInt = 1 := by decide
  have k3 : (3 : Int32).toInt = 3 := by decide
  have k4 : (4 : Int32).toInt = 4 := by decide
  have ref : ∀ s, s = (1 : Int32) → b_X3_begin_24 N x1 x2 s M = some (wI M 6 1) := fun s hs => by
    subst hs
    unfold b_X3_begin_24
    rw [ref1, Option.bind_some]
    dsimp only
    rw [if_neg (by decide)]
  by_cases hn : (1 : Int32).toInt ≤ x1.toInt ∧ x1.toInt ≤ (4 : Int32).toInt
  · have n1 : ¬ x1 < 1 := fun q => by have := Int32.lt_iff_toInt_lt.mp q; omega
    have n2 : ¬ 4 < x1 := fun q => by have := Int32.lt_iff_toInt_lt.mp q; omega
    by_cases hm : (0 : Int32).toInt ≤ x2.toInt ∧ x2.toInt ≤ (3 : Int32).toInt
    · have m1 : ¬ x2 < 0 := fun q => by have := Int32.lt_iff_toInt_lt.mp q; omega
      have m2 : x2 ≤ 3 := Int32.le_iff_toInt_le.mpr hm.2
      obtain ⟨n', j1, j2⟩ := inR_nI (x := x1) (n := 5) ⟨by omega, by omega⟩ (by decide)
      obtain ⟨m', i1, i2⟩ := inR_nI (x := x2) (n := 4) ⟨by omega, by omega⟩ (by decide)
      have j3 : 1 ≤ n' := by
        have := hn.1
        rw [j2, nI_toInt (by omega)] at this
        omega
      obtain ⟨Mc, a1, a2, a3, a4, a5⟩ := clr12 (N := N) (by omega) 3 0 N (wI (wI M 0 x1) 1 x2) (by omega) (by omega) (fun i' hi' => by omega)
      obtain ⟨M2, b1, b2, b3, b4, b5, b6, b7⟩ := bg46 (N := N) (by omega) 12 0 N (wI (wI (wI (wI Mc 3 (-1)) 6 0) 4 x1) 5 x2) (by omega) (by omega) (fun i' hi' => by omega)
      have b2' : M2.1 = upd (upd (upd (upd (upd (upd M.1 0 x1) 1 x2) 3 (-1)) 6 0) 4 x1) 5 x2 := by
        rw [b2]
        show upd (upd (upd (upd Mc.1 3 (-1)) 6 0) 4 x1) 5 x2 = _
        rw [a2]
      have z32 : (0 : Int32).toInt = 0 := i0
      have z64 : (0 : Int64).toInt = 0 := by decide
      refine ⟨0, wI Mc 3 (-1), M2, ?_, ?_, ?_, n', m', fun _ _ => 0, fun _ => 0, fun _ => 0, fun _ => 0, fun _ => 0, ?_⟩
      · unfold f_L_begin f_X2_begin b_X2_begin_0
        rw [if_neg n1, if_neg n2, if_neg m1, if_pos m2]
        unfold f_X1_clear b_X1_clear_0 f_X0_forget b_X0_forget_0
        rw [show b_X1_clear_12 N 0 (wI (wI M 0 x1) 1 x2) = some Mc from a1, Option.bind_some, Option.bind_some, Option.bind_some]
      · unfold f_X3_begin b_X3_begin_0
        rw [outs, Option.bind_some]
        dsimp only
        rw [if_pos hn, if_pos rfl, outs, Option.bind_some]
        dsimp only
        rw [if_pos hm, if_pos rfl]
        unfold b_X3_begin_24
        rw [ref0, Option.bind_some]
        dsimp only
        rw [if_pos rfl]
        exact b1
      · rw [b2']; rfl
      · refine INV.new ?_ ?_ (by rw [b2']; rfl) ?_
        · have t9 : ab 0 ≤ 9 := by decide
          exact ⟨j3, by omega, by omega, fun _ _ _ _ => t9, fun _ _ => (show ab 0 ≤ 50 by decide), fun _ _ => t9, fun _ _ => t9⟩
        · refine ⟨by rw [b2', ← j2]; rfl, by rw [b2', ← i2]; rfl, fun i' hi' c hc' => ?_, fun i' hi' => ?_, fun i' hi' => ?_, fun i' hi' => ?_, fun j' hj' => ?_⟩
          · rw [b3]
            show (Mc.2.2 (6 + i') c).toInt = _
            rw [(a4 i' hi').2.2.2 c hc', z64]
            unfold Eof
            split
            · rfl
            · split <;> rfl
          · rw [b4 0 (by decide)]; exact (a4 i' hi').1
          · rw [b4 1 (by decide)]; exact (congrArg Int32.toInt (a4 i' hi').2.1).trans z32
          · rw [b4 2 (by decide)]; exact (congrArg Int32.toInt (a4 i' hi').2.2.1).trans z32
          · rw [b4 3 (by decide)]; exact (congrArg Int32.toInt (a5 j' hj')).trans z32
        · refine ⟨by rw [b2', ← j2]; rfl, by rw [b2', ← i2]; rfl, fun i' hi' j' hj' => ?_, fun i' hi' => ?_, fun i' hi' => ?_, fun j' hj' => ?_, fun i' hi' => ?_⟩
          · rw [b5 (4 * i' + j') (by omega)]; exact z32
          · rw [(b7 i' hi').1]; exact z32
          · rw [(b7 i' hi').2.1]; exact z32
          · rw [b6 j' hj']; exact z32
          · exact (b7 i' hi').2.2
    · refine SET.ref (k := 1) ?_ ?_ h
      · unfold f_L_begin f_X2_begin b_X2_begin_0
        rw [if_neg n1, if_neg n2]
        by_cases m1 : x2 < 0
        · rw [if_pos m1, Option.bind_some]
          dsimp only
          rw [if_pos rfl]
        · have m2 : ¬ x2 ≤ 3 := fun q => hm ⟨by
            have : ¬ x2.toInt < (0 : Int32).toInt := fun q => m1 (Int32.lt_iff_toInt_lt.mpr q)
            omega, Int32.le_iff_toInt_le.mp q⟩
          rw [if_neg m1, if_neg m2, Option.bind_some]
          dsimp only
          rw [if_pos rfl]
      · unfold f_X3_begin b_X3_begin_0
        rw [outs, Option.bind_some]
        dsimp only
        rw [if_pos hn, if_pos rfl, outs, Option.bind_some]
        dsimp only
        rw [if_neg hm, if_neg (by decide)]
        exact ref 1 rfl
  · refine SET.ref (k := 1) ?_ ?_ h
    · unfold f_L_begin f_X2_begin b_X2_begin_0
      by_cases n1 : x1 < 1
      · rw [if_pos n1, Option.bind_some]
        dsimp only
        rw [if_pos rfl]
      · have n2 : 4 < x1 := Int32.lt_iff_toInt_lt.mpr (by
          have : ¬ x1.toInt < (1 : Int32).toInt := fun q => n1 (Int32.lt_iff_toInt_lt.mpr q)
          omega)
        rw [if_neg n1, if_pos n2, Option.bind_some]
        dsimp only
        rw [if_pos rfl]
    · unfold f_X3_begin b_X3_begin_0
      rw [outs, Option.bind_some]
      dsimp only
      rw [if_neg hn, if_neg (by decide)]
      exact ref 1 rfl
end Sb
