section Qc
variable {M M' : Mm} {n m mask cn : Nat} {a : Nat → Nat → Int} {b e cc : Nat → Int} {sn : Nat → Int32}
/-! the rows that can't be together -/
def clb (mask i : Nat) : Nat := mask - (if mask.testBit i then 2 ^ i else 0)
theorem clb_le (mask i : Nat) : clb mask i ≤ mask := Nat.sub_le _ _
theorem clb_nI : ∀ mask, mask < 8 → ∀ i, i < 3 → nI mask &&& ((1 <<< (nI i &&& 31)) ^^^ (-1)) = nI (clb mask i) := by decide +kernel
def CFR (P : Nat → Prop) : Nat → Nat → Nat → Nat → Prop
  | 0, _, mask, out => out = mask
  | d + 1, i, mask, out => (P (clb mask i) ∧ CFR P d (i + 1) mask out) ∨ (¬ P (clb mask i) ∧ CFR P d (i + 1) (clb mask i) out)
theorem CFR.un {P : Nat → Prop} : ∀ {d i mask x y : Nat}, CFR P d i mask x → CFR P d i mask y → x = y
  | 0, _, _, _, _, h, h' => Eq.trans h (Eq.symm h')
  | d + 1, i, mask, x, y, h, h' => by
    rcases h with ⟨h1, h2⟩ | ⟨h1, h2⟩ <;> rcases h' with ⟨k1, k2⟩ | ⟨k1, k2⟩
    · exact CFR.un h2 k2
    · exact absurd h1 k1
    · exact absurd k1 h1
    · exact CFR.un h2 k2
theorem c_conf_loop {N : Nat} (hN : 600 ≤ N) : ∀ (d i mask fuel : Nat) (M : Mm), INV M n m a b e cc sn → i + d = m → mask < 2 ^ m → d < fuel →
    ∃ out M', lpT (fun _ _ _ => none) (F_X2_conflict_26 N) fuel (nI mask) (nI i) M = some (.inr (nI out), M') ∧ CFR (FeasS n m a b e sn) d i mask out ∧ FC M M' ∧ INV M' n m a b e cc sn := by
  intro d
  induction d with
  | zero =>
    intro i mask fuel M h hi hm hf
    obtain ⟨g, rfl, hg⟩ := fuel_s hf
    rw [lp_s]
    generalize lpT (fun _ _ _ => none) (F_X2_conflict_26 N) g = q
    have h3 := h.1.2.2.1
    unfold F_X2_conflict_26
    rw [h.2.1.2.1, if_pos (nI_le (by omega) (by omega))]
    exact ⟨mask, M, rfl, rfl, FC.rf, h⟩
  | succ d ih =>
    intro i mask fuel M h hi hm hf
    obtain ⟨g, rfl, hg⟩ := fuel_s hf
    rw [lp_s]
    have h3 := h.1.2.2.1
    have h8 := pow3 m h3
    have hcl := clb_le mask i
    obtain ⟨r, M1, cn, a1, a2, a3, a4, a5, -⟩ := c_feasb hN h (mask := clb mask i) (by omega)
    rcases a2 with rfl | rfl
    · obtain ⟨out, M2, b1, b2, b3, b4⟩ := ih (i + 1) (clb mask i) g M1 a5 (by omega) (by omega) (by omega)
      refine ⟨out, M2, ?_, Or.inr ⟨fun q => absurd (a3.mpr q) (by decide), b2⟩, a4.tr b3, b4⟩
      generalize lpT (fun _ _ _ => none) (F_X2_conflict_26 N) g = q at b1 ⊢
      unfold F_X2_conflict_26
      rw [h.2.1.2.1, if_neg (nI_ge (by omega) (by omega)), clb_nI mask (by omega) i (by omega), a1, Option.bind_some]
      dsimp only
      rw [if_pos rfl, nI_1]
      exact b1
    · obtain ⟨out, M2, b1, b2, b3, b4⟩ := ih (i + 1) mask g M1 a5 (by omega) hm (by omega)
      refine ⟨out, M2, ?_, Or.inl ⟨a3.mp rfl, b2⟩, a4.tr b3, b4⟩
      generalize lpT (fun _ _ _ => none) (F_X2_conflict_26 N) g = q at b1 ⊢
      unfold F_X2_conflict_26
      rw [h.2.1.2.1, if_neg (nI_ge (by omega) (by omega)), clb_nI mask (by omega) i (by omega), a1, Option.bind_some]
      dsimp only
      rw [if_neg (by decide), nI_1]
      exact b1
theorem m_inf6 {N : Nat} (hN : 600 ≤ N) (h : INV M n m a b e cc sn) (hmk : mask < 2 ^ m) {r : Int32} (hc : f_X3_infeasible N (nI mask) M = some (r, M')) : M'.1 6 = M.1 6 := by
  obtain ⟨M'', f, a1, -⟩ := m_coll hN h hmk (x2 := 0) (w := n) (Or.inr ⟨Or.inl rfl, rfl⟩)
  have h6 := m_coll6 hN h hmk (x2 := 0) (w := n) (Or.inr ⟨Or.inl rfl, rfl⟩) a1
  unfold f_X3_infeasible b_X3_infeasible_0 at hc
  rw [a1, Option.bind_some] at hc
  split at hc
  · rw [← (Prod.mk.inj (Option.some.inj hc)).2]; exact h6
  · rw [← (Prod.mk.inj (Option.some.inj hc)).2]; exact h6
theorem m_conf_loop {N : Nat} (hN : 600 ≤ N) : ∀ (d i mask fuel : Nat) (M : Mm), INV M n m a b e cc sn → i + d = m → mask < 2 ^ m → d < fuel →
    ∃ out M', lpT (fun _ _ _ => none) (F_X3_conflict_35 N) fuel (nI mask) (nI i) M = some (nI out, M') ∧ CFR (FeasS n m a b e sn) d i mask out ∧ FM M M' ∧ INV M' n m a b e cc sn ∧ M'.1 6 = M.1 6 := by
  intro d
  induction d with
  | zero =>
    intro i mask fuel M h hi hm hf
    obtain ⟨g, rfl, hg⟩ := fuel_s hf
    rw [lp_s]
    generalize lpT (fun _ _ _ => none) (F_X3_conflict_35 N) g = q
    have h3 := h.1.2.2.1
    unfold F_X3_conflict_35
    rw [h.2.2.2.2.1, if_pos (nI_le (by omega) (by omega))]
    exact ⟨mask, M, rfl, rfl, FM.rf, h, rfl⟩
  | succ d ih =>
    intro i mask fuel M h hi hm hf
    obtain ⟨g, rfl, hg⟩ := fuel_s hf
    rw [lp_s]
    have h3 := h.1.2.2.1
    have h8 := pow3 m h3
    have hcl := clb_le mask i
    obtain ⟨r, M1, a1, a2, a3, a4, a5⟩ := m_inf hN h (mask := clb mask i) (by omega)
    have a6 := m_inf6 hN h (mask := clb mask i) (by omega) a1
    rcases a2 with rfl | rfl
    · obtain ⟨out, M2, b1, b2, b3, b4, b5⟩ := ih (i + 1) mask g M1 a5 (by omega) hm (by omega)
      refine ⟨out, M2, ?_, Or.inl ⟨Classical.byContradiction (fun q => absurd (a3.mpr q) (by decide)), b2⟩, a4.tr b3, b4, b5.trans a6⟩
      generalize lpT (fun _ _ _ => none) (F_X3_conflict_35 N) g = q at b1 ⊢
      unfold F_X3_conflict_35
      rw [h.2.2.2.2.1, if_neg (nI_ge (by omega) (by omega)), clb_nI mask (by omega) i (by omega), a1, Option.bind_some]
      dsimp only
      rw [if_pos rfl, nI_1]
      exact b1
    · obtain ⟨out, M2, b1, b2, b3, b4, b5⟩ := ih (i + 1) (clb mask i) g M1 a5 (by omega) (by omega) (by omega)
      refine ⟨out, M2, ?_, Or.inr ⟨a3.mp rfl, b2⟩, a4.tr b3, b4, b5.trans a6⟩
      generalize lpT (fun _ _ _ => none) (F_X3_conflict_35 N) g = q at b1 ⊢
      unfold F_X3_conflict_35
      rw [h.2.2.2.2.1, if_neg (nI_ge (by omega) (by omega)), clb_nI mask (by omega) i (by omega), a1, Option.bind_some]
      dsimp only
      rw [if_neg (by decide), nI_1]
      exact b1
theorem t_conflict {N : Nat} (hN : 600 ≤ N) (h : INV M n m a b e cc sn) : ANS (fun y : Int32 => Int32.toInt64 y) (f_L_conflict N M) (f_X3_conflict N) n m a b e cc sn := by
  obtain ⟨st, M1, cn, s1, s2, s3, s4, s5, s6⟩ := c_solve hN h
  have h3 := h.1.2.2.1
  by_cases hf : FeasS n m a b e sn (2 ^ m - 1)
  · have h1 : ¬ st = 1 := fun q => (s2.one.mp q) hf
    obtain ⟨r, M2, a1, a2, a3, a4, a5⟩ := m_inf hN s4 (all_lt m)
    have e5 : r = 0 := a2.resolve_right (fun q => (a3.mp q) hf)
    subst e5
    refine ANS.ref (k := 1) (M1 := M1) (M2 := M2) (y := 0) (by decide) ?_ ?_ a5
    · unfold f_L_conflict f_X2_conflict b_X2_conflict_0
      rw [s1, Option.bind_some]
      dsimp only
      rw [if_neg h1, Option.bind_some]
      dsimp only
      rw [if_pos rfl]
    · unfold f_X3_conflict b_X3_conflict_0
      rw [evry s4, Option.bind_some]
      dsimp only
      rw [a1, Option.bind_some]
      dsimp only
      rw [if_pos rfl]
      unfold b_X3_conflict_17
      rw [ref1, Option.bind_some]
      dsimp only
      rw [if_neg (by decide)]
  · have h1 : st = 1 := s2.one.mpr hf
    subst h1
    obtain ⟨out, M2, b1, b2, b3, b4⟩ := c_conf_loop hN m 0 (2 ^ m - 1) N M1 s4 (by omega) (all_lt m) (by omega)
    have c1 : f_L_conflict N M = some (0, sL M2 5 0 (Int32.toInt64 (nI out))) := by
      unfold f_L_conflict f_X2_conflict b_X2_conflict_0
      rw [s1, Option.bind_some]
      dsimp only
      rw [if_pos rfl, allr h3 s4.2.1.2.1, Option.bind_some]
      dsimp only
      rw [show b_X2_conflict_26 N (nI (2 ^ m - 1)) 0 M1 = some (.inr (nI out), M2) from b1, Option.bind_some]
      dsimp only
      rw [wOut, Option.bind_some]
    generalize hR : Int32.toInt64 (nI out) = R at c1
    have hI := b4.out (r := R)
    obtain ⟨r, M3, a1, a2, a3, a4, a5⟩ := m_inf hN hI (all_lt m)
    have e5 : r = 1 := a3.mpr hf
    subst e5
    obtain ⟨out', M4, d1, d2, d3, d4, d5⟩ := m_conf_loop hN m 0 (2 ^ m - 1) N (wI M3 6 0) (a5.fm w6fm) (by omega) (all_lt m) (by omega)
    refine ANS.good (r := R) (y := nI out') (M1 := M2) (M3 := M4) c1 ?_ (by rw [← hR, b2.un d2]) (d5.trans (w6 M3 0)) ((a4.tr w6fm).tr d3) d4
    unfold f_X3_conflict b_X3_conflict_0
    rw [evry hI, Option.bind_some]
    dsimp only
    rw [a1, Option.bind_some]
    dsimp only
    rw [if_neg (by decide)]
    unfold b_X3_conflict_17
    rw [ref0, Option.bind_some]
    dsimp only
    rw [if_pos rfl, evry (a5.fm w6fm), Option.bind_some]
    exact d1
end Qc
