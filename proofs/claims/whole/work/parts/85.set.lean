/-! THE CALLS THAT CHANGE THE PROGRAM -/
section Se
variable {M M' : Mm} {n m mask cn : Nat} {a : Nat → Nat → Int} {b e cc : Nat → Int} {sn : Nat → Int32}
def IV (M : Mm) : Prop := ∃ n m a b e cc sn, INV M n m a b e cc sn
def SET (q : Option (Int32 × Mm)) (g : Mm → Option Mm) : Prop := ∃ k M1 M2, q = some (k, M1) ∧ g M1 = some M2 ∧ M2.1 6 = k ∧ IV M2
theorem SET.ref {q : Option (Int32 × Mm)} {g : Mm → Option Mm} {k : Int32} (hq : q = some (k, M)) (hg : g M = some (wI M 6 k)) (hI : INV M n m a b e cc sn) : SET q g :=
  ⟨k, M, wI M 6 k, hq, hg, w6 M k, n, m, a, b, e, cc, sn, hI.fm w6fm⟩
theorem INV.new (hZ : PZ n m a b e cc) (hc : CLS M n m a b e cc sn) (h3 : M.1 3 = -1) (hm : MDT M n m a b e cc sn) : INV M n m a b e cc sn :=
  ⟨hZ, hc, fun mask hk h => by
    have := pow3 m hZ.2.2.1
    exact absurd (h.symm.trans h3) (m1_ne (by omega)), hm⟩
theorem isFac {N : Nat} {x : Int32} : f_X2_isFactor N x M = some (if (-9 : Int32).toInt ≤ x.toInt ∧ x.toInt ≤ (9 : Int32).toInt then 1 else 0, M) := by
  unfold f_X2_isFactor b_X2_isFactor_0
  by_cases h0 : x < -9
  · rw [if_pos h0, if_neg (fun q => by have := Int32.lt_iff_toInt_lt.mp h0; omega)]
  · have h0' : ¬ x.toInt < (-9 : Int32).toInt := fun q => h0 (Int32.lt_iff_toInt_lt.mpr q)
    rw [if_neg h0]
    by_cases h1 : 9 < x
    · have := Int32.lt_iff_toInt_lt.mp h1
      rw [if_pos h1, if_neg (fun q => by omega)]
    · have : ¬ (9 : Int32).toInt < x.toInt := fun q => h1 (Int32.lt_iff_toInt_lt.mpr q)
      rw [if_neg h1, if_pos ⟨by omega, by omega⟩]
theorem fac_b {x : Int32} (h : (-9 : Int32).toInt ≤ x.toInt ∧ x.toInt ≤ (9 : Int32).toInt) : ab x.toInt ≤ 9 := by
  rw [show (-9 : Int32).toInt = -9 by decide, show (9 : Int32).toInt = 9 by decide] at h
  exact ab_le.mpr h
theorem u36 {f : Nat → Int32} {k : Nat} (h3 : k ≠ 3) (h6 : k ≠ 6) : upd (upd f 3 (-1)) 6 0 k = f k := by rw [pk_un h6, pk_un h3]
theorem u3 {f : Nat → Int32} : upd (upd f 3 (-1)) 6 0 3 = -1 := by rw [pk_un (by decide), pk_us]
theorem t_coefficient {N : Nat} (h : INV M n m a b e cc sn) (x1 x2 x3 : Int32) : SET (f_L_coefficient N x1 x2 x3 M) (f_X3_coefficient N x1 x2 x3) := by
  obtain ⟨hZ, hc, hh, hm⟩ := h
  have hI : INV M n m a b e cc sn := ⟨hZ, hc, hh, hm⟩
  have hn4 := hZ.2.1
  have hm3 := hZ.2.2.1
  by_cases hr : inR x1 m
  · by_cases hv : inR x2 n
    · by_cases hf : (-9 : Int32).toInt ≤ x3.toInt ∧ x3.toInt ≤ (9 : Int32).toInt
      · obtain ⟨i, i1, i2⟩ := inR_nI hr (by omega)
        obtain ⟨j, j1, j2⟩ := inR_nI hv (by omega)
        refine ⟨0, wI (sL M (6 + i) (2 + j) (Int32.toInt64 x3)) 3 (-1), sA (wI (wI (sL M (6 + i) (2 + j) (Int32.toInt64 x3)) 3 (-1)) 6 0) 6 (4 * i + j) x3, ?_, ?_, ?_, n, m, fun i' j' => if i' = i ∧ j' = j then x3.toInt else a i' j', b, e, cc, sn, ?_⟩
        · unfold f_L_coefficient f_X2_coefficient b_X2_coefficient_0
          rw [hasR hc hm3, Option.bind_some]
          dsimp only
          rw [if_pos hr, if_neg (by decide), hasV hc hn4, Option.bind_some]
          dsimp only
          rw [if_pos hv, if_neg (by decide), isFac, Option.bind_some]
          dsimp only
          rw [if_pos hf, if_neg (by decide)]
          unfold f_X1_setFactor b_X1_setFactor_0 f_X0_forget b_X0_forget_0
          rw [i2, j2, rO0 (by omega), Option.bind_some, ix2, wL_i (by rw [lnE i (by omega)]; omega), Option.bind_some, Option.bind_some, Option.bind_some, Option.bind_some]
        · unfold f_X3_coefficient b_X3_coefficient_0
          have e5 : (wI (sL M (6 + i) (2 + j) (Int32.toInt64 x3)) 3 (-1)).1 5 = nI m := (pk_un (f := M.1) (k := 3) (j := 5) (x := -1) (by decide)).trans hm.2.1
          have e4 : (wI (sL M (6 + i) (2 + j) (Int32.toInt64 x3)) 3 (-1)).1 4 = nI n := (pk_un (f := M.1) (k := 3) (j := 4) (x := -1) (by decide)).trans hm.1
          generalize hG : wI (sL M (6 + i) (2 + j) (Int32.toInt64 x3)) 3 (-1) = G at e5 e4 ⊢
          rw [e5, outR (by omega), Option.bind_some]
          dsimp only
          rw [if_pos hr, if_pos rfl, e4, outR (by omega), Option.bind_some]
          dsimp only
          rw [if_pos hv, if_pos rfl]
          unfold b_X3_coefficient_34
          rw [outs, Option.bind_some]
          dsimp only
          rw [if_pos hf, ref0, Option.bind_some]
          dsimp only
          rw [if_pos rfl, i2, j2, ix4, wA_i (by rw [lnA6]; omega), Option.bind_some]
        · exact pk_us (f := upd M.1 3 (-1)) (k := 6) (x := 0)
        · refine INV.new ?_ ?_ (u3 (f := M.1)) ?_
          · obtain ⟨z1, z2, z3, z4, z5, z6, z7⟩ := hZ
            refine ⟨z1, z2, z3, fun i' hi' j' hj' => ?_, z5, z6, z7⟩
            dsimp only
            by_cases hij : i' = i ∧ j' = j
            · rw [if_pos hij]; exact fac_b hf
            · rw [if_neg hij]; exact z4 i' hi' j' hj'
          · obtain ⟨c1, c2, c3, c4, c5, c6, c7⟩ := hc
            refine ⟨(u36 (f := M.1) (by decide) (by decide)).trans c1, (u36 (f := M.1) (by decide) (by decide)).trans c2, fun i' hi' c hc' => ?_, fun i' hi' => ?_, fun i' hi' => ?_, fun i' hi' => ?_, fun j' hj' => ?_⟩
            · show ((sL M (6 + i) (2 + j) (Int32.toInt64 x3)).2.2 (6 + i') c).toInt = _
              have h0 := c3 i' hi' c hc'
              rw [sL_at]
              unfold Eof at h0 ⊢
              dsimp only
              by_cases q : 6 + i' = 6 + i ∧ c = 2 + j
              · rw [if_pos q, if_neg (by omega), if_neg (by omega), if_pos ⟨by omega, by omega⟩, Kit.i64_of_i32]
              · rw [if_neg q]
                by_cases q0 : c = 0
                · rw [if_pos q0] at h0 ⊢; exact h0
                · by_cases q1 : c = 1
                  · rw [if_neg q0, if_pos q1] at h0 ⊢; exact h0
                  · rw [if_neg q0, if_neg q1] at h0 ⊢
                    rw [if_neg (by omega)]
                    exact h0
            · exact (congrFun (sA_ne (M := M) (k' := 0) (by decide)) i').trans (c4 i' hi')
            · exact (congrArg Int32.toInt (congrFun (sA_ne (M := M) (k' := 1) (by decide)) i')).trans (c5 i' hi')
            · exact (congrArg Int32.toInt (congrFun (sA_ne (M := M) (k' := 2) (by decide)) i')).trans (c6 i' hi')
            · exact (congrArg Int32.toInt (congrFun (sA_ne (M := M) (k' := 3) (by decide)) j')).trans (c7 j' hj')
          · obtain ⟨c1, c2, c3, c4, c5, c6, c7⟩ := hm
            refine ⟨(u36 (f := M.1) (by decide) (by decide)).trans c1, (u36 (f := M.1) (by decide) (by decide)).trans c2, fun i' hi' j' hj' => ?_, fun i' hi' => ?_, fun i' hi' => ?_, fun i' hi' => ?_, fun j' hj' => ?_⟩
            · show ((sA M 6 (4 * i + j) x3).2.1 6 (4 * i' + j')).toInt = _
              rw [sA_at]
              dsimp only
              by_cases q : i' = i ∧ j' = j
              · rw [if_pos ⟨rfl, by omega⟩, if_pos q]
              · rw [if_neg (by omega), if_neg q]
                exact c3 i' hi' j' hj'
            · exact (congrArg Int32.toInt (congrFun (sA_ne (M := M) (k' := 7) (by decide)) i')).trans (c4 i' hi')
            · exact (congrArg Int32.toInt (congrFun (sA_ne (M := M) (k' := 9) (by decide)) i')).trans (c5 i' hi')
            · exact (congrArg Int32.toInt (congrFun (sA_ne (M := M) (k' := 8) (by decide)) i')).trans (c6 i' hi')
            · exact (congrFun (sA_ne (M := M) (k' := 10) (by decide)) j').trans (c7 j' hj')
      · refine SET.ref (k := 2) ?_ ?_ hI
        · unfold f_L_coefficient f_X2_coefficient b_X2_coefficient_0
          rw [hasR hc hm3, Option.bind_some]
          dsimp only
          rw [if_pos hr, if_neg (by decide), hasV hc hn4, Option.bind_some]
          dsimp only
          rw [if_pos hv, if_neg (by decide), isFac, Option.bind_some]
          dsimp only
          rw [if_neg hf, if_pos rfl, Option.bind_some]
          dsimp only
          rw [if_neg (by decide), if_pos rfl]
        · unfold f_X3_coefficient b_X3_coefficient_0
          rw [hm.2.1, outR (by omega), Option.bind_some]
          dsimp only
          rw [if_pos hr, if_pos rfl, hm.1, outR (by omega), Option.bind_some]
          dsimp only
          rw [if_pos hv, if_pos rfl]
          unfold b_X3_coefficient_34
          rw [outs, Option.bind_some]
          dsimp only
          rw [if_neg hf, ref2, Option.bind_some]
          dsimp only
          rw [if_neg (by decide)]
    · refine SET.ref (k := 1) ?_ ?_ hI
      · unfold f_L_coefficient f_X2_coefficient b_X2_coefficient_0
        rw [hasR hc hm3, Option.bind_some]
        dsimp only
        rw [if_pos hr, if_neg (by decide), hasV hc hn4, Option.bind_some]
        dsimp only
        rw [if_neg hv, if_pos rfl, Option.bind_some]
        dsimp only
        rw [if_pos rfl]
      · unfold f_X3_coefficient b_X3_coefficient_0
        rw [hm.2.1, outR (by omega), Option.bind_some]
        dsimp only
        rw [if_pos hr, if_pos rfl, hm.1, outR (by omega), Option.bind_some]
        dsimp only
        rw [if_neg hv, if_neg (by decide)]
        unfold b_X3_coefficient_29 b_X3_coefficient_34
        rw [outs, Option.bind_some]
        dsimp only
        rw [ref1, Option.bind_some]
        dsimp only
        rw [if_neg (by decide)]
  · refine SET.ref (k := 1) ?_ ?_ hI
    · unfold f_L_coefficient f_X2_coefficient b_X2_coefficient_0
      rw [hasR hc hm3, Option.bind_some]
      dsimp only
      rw [if_neg hr, if_pos rfl, Option.bind_some]
      dsimp only
      rw [if_pos rfl]
    · unfold f_X3_coefficient b_X3_coefficient_0
      rw [hm.2.1, outR (by omega), Option.bind_some]
      dsimp only
      rw [if_neg hr, if_neg (by decide)]
      unfold b_X3_coefficient_29 b_X3_coefficient_34
      rw [outs, Option.bind_some]
      dsimp only
      rw [ref1, Option.bind_some]
      dsimp only
      rw [if_neg (by decide)]
theorem t_want {N : Nat} (h : INV M n m a b e cc sn) (x1 x2 : Int32) : SET (f_L_want N x1 x2 M) (f_X3_want N x1 x2) := by
  obtain ⟨hZ, hc, hh, hm⟩ := h
  have hI : INV M n m a b e cc sn := ⟨hZ, hc, hh, hm⟩
  have hn4 := hZ.2.1
  have hm3 := hZ.2.2.1
  by_cases hv : inR x1 n
  · by_cases hf : (-9 : Int32).toInt ≤ x2.toInt ∧ x2.toInt ≤ (9 : Int32).toInt
    · obtain ⟨j, j1, j2⟩ := inR_nI hv (by omega)
      refine ⟨0, sA M 3 j x2, sA (wI (sA M 3 j x2) 6 0) 8 j x2, ?_, ?_, ?_, n, m, a, b, e, fun j' => if j' = j then x2.toInt else cc j', sn, ?_⟩
      · unfold f_L_want f_X2_want b_X2_want_0
        rw [hasV hc hn4, Option.bind_some]
        dsimp only
        rw [if_pos hv, if_neg (by decide), isFac, Option.bind_some]
        dsimp only
        rw [if_pos hf, if_neg (by decide)]
        unfold f_X1_setWant b_X1_setWant_0
        rw [j2, wA_i (by rw [lnA3]; omega), Option.bind_some, Option.bind_some, Option.bind_some]
      · unfold f_X3_want b_X3_want_0
        have e4 : (sA M 3 j x2).1 4 = nI n := hm.1
        generalize sA M 3 j x2 = G at e4 ⊢
        rw [e4, outR (by omega), Option.bind_some]
        dsimp only
        rw [outs, Option.bind_some]
        dsimp only
        rw [if_pos hv, if_pos hf, ref0, Option.bind_some]
        dsimp only
        rw [if_pos rfl, j2, wA_i (by rw [lnA8]; omega), Option.bind_some]
      · exact pk_us (f := M.1) (k := 6) (x := 0)
      · have u6 : ∀ k, k ≠ 6 → upd M.1 6 0 k = M.1 k := fun k hk => pk_un hk
        have r3 : ∀ k, k ≠ 3 → k ≠ 8 → (sA (wI (sA M 3 j x2) 6 0) 8 j x2).2.1 k = M.2.1 k := fun k h3 h8 => (sA_ne (M := wI (sA M 3 j x2) 6 0) h8).trans (sA_ne (M := M) h3)
        refine ⟨?_, ?_, ?_, ?_⟩
        · obtain ⟨z1, z2, z3, z4, z5, z6, z7⟩ := hZ
          refine ⟨z1, z2, z3, z4, z5, z6, fun j' hj' => ?_⟩
          dsimp only
          by_cases hij : j' = j
          · rw [if_pos hij]; exact fac_b hf
          · rw [if_neg hij]; exact z7 j' hj'
        · obtain ⟨c1, c2, c3, c4, c5, c6, c7⟩ := hc
          refine ⟨(u6 0 (by decide)).trans c1, (u6 1 (by decide)).trans c2, c3, fun i' hi' => by rw [r3 0 (by decide) (by decide)]; exact c4 i' hi', fun i' hi' => by rw [r3 1 (by decide) (by decide)]; exact c5 i' hi', fun i' hi' => by rw [r3 2 (by decide) (by decide)]; exact c6 i' hi', fun j' hj' => ?_⟩
          rw [sA_ne (k' := 3) (by decide)]
          show ((sA M 3 j x2).2.1 3 j').toInt = if j' = j then x2.toInt else cc j'
          rw [sA_at]
          by_cases q : j' = j
          · rw [if_pos ⟨rfl, q⟩, if_pos q]
          · rw [if_neg (fun z => q z.2), if_neg q]
            exact c7 j' hj'
        · intro mask hk h3'
          obtain ⟨cn, hcn⟩ := hh mask hk ((u6 3 (by decide)).symm.trans h3')
          exact ⟨cn, hcn.kept (u6 2 (by decide)) (u6 3 (by decide)) (fun κ _ => rfl)⟩
        · obtain ⟨c1, c2, c3, c4, c5, c6, c7⟩ := hm
          refine ⟨(u6 4 (by decide)).trans c1, (u6 5 (by decide)).trans c2, fun i' hi' j' hj' => by rw [r3 6 (by decide) (by decide)]; exact c3 i' hi' j' hj', fun i' hi' => by rw [r3 7 (by decide) (by decide)]; exact c4 i' hi', fun i' hi' => by rw [r3 9 (by decide) (by decide)]; exact c5 i' hi', fun j' hj' => ?_, fun i' hi' => by rw [r3 10 (by decide) (by decide)]; exact c7 i' hi'⟩
          rw [sA_at]
          dsimp only
          by_cases q : j' = j
          · rw [if_pos ⟨rfl, q⟩, if_pos q]
          · rw [if_neg (fun z => q z.2), if_neg q]
            show ((sA M 3 j x2).2.1 8 j').toInt = _
            rw [sA_ne (by decide)]
            exact c6 j' hj'
    · refine SET.ref (k := 2) ?_ ?_ hI
      · unfold f_L_want f_X2_want b_X2_want_0
        rw [hasV hc hn4, Option.bind_some]
        dsimp only
        rw [if_pos hv, if_neg (by decide), isFac, Option.bind_some]
        dsimp only
        rw [if_neg hf, if_pos rfl, Option.bind_some]
        dsimp only
        rw [if_neg (by decide), if_pos rfl]
      · unfold f_X3_want b_X3_want_0
        rw [hm.1, outR (by omega), Option.bind_some]
        dsimp only
        rw [outs, Option.bind_some]
        dsimp only
        rw [if_pos hv, if_neg hf, ref2, Option.bind_some]
        dsimp only
        rw [if_neg (by decide)]
  · refine SET.ref (k := 1) ?_ ?_ hI
    · unfold f_L_want f_X2_want b_X2_want_0
      rw [hasV hc hn4, Option.bind_some]
      dsimp only
      rw [if_neg hv, if_pos rfl, Option.bind_some]
      dsimp only
      rw [if_pos rfl]
    · unfold f_X3_want b_X3_want_0
      rw [hm.1, outR (by omega), Option.bind_some]
      dsimp only
      rw [outs, Option.bind_some]
      dsimp only
      rw [if_neg hv, ref1, Option.bind_some]
      dsimp only
      rw [if_neg (by decide)]
theorem t_solve {N : Nat} (hN : 600 ≤ N) (h : INV M n m a b e cc sn) : ∃ r M1 M2, f_X2_solve N M = some (r, M1) ∧ f_X3_solve N M1 = some (r, M2) ∧ INV M2 n m a b e cc sn := by
  obtain ⟨st, M1, cn, s1, s2, s3, s4, s5, s6⟩ := c_solve hN h
  obtain ⟨st', M2, t1, t2, t3, t4⟩ := m_status hN (s4.fm (w6fm (t := 0)))
  refine ⟨st, M1, M2, s1, ?_, t4⟩
  unfold f_X3_solve b_X3_solve_0
  rw [t1, Option.bind_some, s2.un t2]
end Se
