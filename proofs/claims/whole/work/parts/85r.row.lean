section Sr
variable {M M' : Mm} {n m mask cn : Nat} {a : Nat → Nat → Int} {b e cc : Nat → Int} {sn : Nat → Int32}
theorem lnA1 : lnA 1 = 3 := by decide
theorem lnA2 : lnA 2 = 3 := by decide
/-- the row's entries for its right side and its drift -/
def enR (M : Mm) (i : Nat) : Mm := sL (sL M (6 + i) 0 (Int32.toInt64 (-(M.2.1 1 i)))) (6 + i) 1 (Int32.toInt64 (-(M.2.1 1 i) - M.2.1 2 i))
theorem entR {N i : Nat} (hi : i < 3) : f_X1_enterRight N (nI i) M = some (enR M i) := by
  have w0 : ∀ (M : Mm) (x : Int64), wL M (6 + i) 0 x = some (sL M (6 + i) 0 x) := fun M x => wL_i (i := 0) (by rw [lnE i hi]; decide) x
  have w1 : ∀ (M : Mm) (x : Int64), wL M (6 + i) 1 x = some (sL M (6 + i) 1 x) := fun M x => wL_i (i := 1) (by rw [lnE i hi]; decide) x
  unfold f_X1_enterRight b_X1_enterRight_0
  rw [rO0 hi, Option.bind_some, rA_i (by rw [lnA1]; exact hi), Option.bind_some, w0, Option.bind_some, Option.bind_some, rA_i (by rw [lnA1]; exact hi), Option.bind_some, rA_i (by rw [lnA2]; exact hi), Option.bind_some, w1, Option.bind_some]
  rfl
theorem neg_i {x : Int32} (h : ab x.toInt ≤ 50) : (-x).toInt = -x.toInt := Kit.i32_neg (by have := ab_le.mp h; omega)
theorem enR_at {i i' c : Nat} (hb : ab (M.2.1 1 i).toInt ≤ 50) (he : ab (M.2.1 2 i).toInt ≤ 9) (hc : c < 6) (h0 : i' ≠ i ∨ 2 ≤ c → (M.2.2 (6 + i') c).toInt = Eof a b e i' c) (h1 : i' = i → (M.2.1 1 i).toInt = b i ∧ (M.2.1 2 i).toInt = e i) : ((enR M i).2.2 (6 + i') c).toInt = Eof a b e i' c := by
  have b50 := ab_le.mp hb
  have e9 := ab_le.mp he
  unfold enR
  rw [sL_at]
  by_cases q1 : 6 + i' = 6 + i ∧ c = 1
  · have hi : i' = i := by omega
    rw [if_pos q1, Kit.i64_of_i32, Kit.i32_sub (by rw [neg_i hb]; omega) (by rw [neg_i hb]; omega), neg_i hb, (h1 hi).1, (h1 hi).2, hi, q1.2]
    rfl
  · rw [if_neg q1, sL_at]
    by_cases q0 : 6 + i' = 6 + i ∧ c = 0
    · have hi : i' = i := by omega
      rw [if_pos q0, Kit.i64_of_i32, neg_i hb, (h1 hi).1, hi, q0.2]
      rfl
    · rw [if_neg q0]
      exact h0 (by omega)
theorem t_row {N : Nat} (h : INV M n m a b e cc sn) (x1 x2 x3 : Int32) : SET (f_L_row N x1 x2 x3 M) (f_X3_row N x1 x2 x3) := by
  obtain ⟨hZ, hc, hh, hm⟩ := h
  have hI : INV M n m a b e cc sn := ⟨hZ, hc, hh, hm⟩
  have hn4 := hZ.2.1
  have hm3 := hZ.2.2.1
  have k0 : (0 : Int32).toInt = 0 := i0
  have k2 : (2 : Int32).toInt = 2 := by decide
  have k50 : (50 : Int32).toInt = 50 := by decide
  have km : (-50 : Int32).toInt = -50 := by decide
  by_cases hr : inR x1 m
  · by_cases hs : (0 : Int32).toInt ≤ x2.toInt ∧ x2.toInt ≤ (2 : Int32).toInt
    · have s1 : ¬ x2 < 0 := fun q => by have := Int32.lt_iff_toInt_lt.mp q; omega
      have s2 : ¬ 2 < x2 := fun q => by have := Int32.lt_iff_toInt_lt.mp q; omega
      by_cases hf : (-50 : Int32).toInt ≤ x3.toInt ∧ x3.toInt ≤ (50 : Int32).toInt
      · have f1 : ¬ x3 < -50 := fun q => by have := Int32.lt_iff_toInt_lt.mp q; omega
        have f2 : x3 ≤ 50 := Int32.le_iff_toInt_le.mpr hf.2
        have h50 : ab x3.toInt ≤ 50 := ab_le.mpr (by omega)
        obtain ⟨i, i1, i2⟩ := inR_nI hr (by omega)
        refine ⟨0, wI (enR (sA (sA M 0 i x2) 1 i x3) i) 3 (-1), sA (sA (wI (wI (enR (sA (sA M 0 i x2) 1 i x3) i) 3 (-1)) 6 0) 10 i x2) 7 i x3, ?_, ?_, ?_, n, m, a, fun i' => if i' = i then x3.toInt else b i', e, cc, fun i' => if i' = i then x2 else sn i', ?_⟩
        · unfold f_L_row f_X2_row b_X2_row_0
          rw [hasR hc hm3, Option.bind_some]
          dsimp only
          rw [if_pos hr, if_neg (by decide), if_neg s1, if_neg s2, if_neg f1, if_pos f2]
          unfold f_X1_setRow b_X1_setRow_0 f_X0_forget b_X0_forget_0
          rw [i2, wA_i (by rw [lnA0]; omega), Option.bind_some, wA_i (by rw [lnA1]; omega), Option.bind_some, entR (by omega), Option.bind_some, Option.bind_some, Option.bind_some, Option.bind_some]
        · unfold f_X3_row b_X3_row_0
          have e5 : (wI (enR (sA (sA M 0 i x2) 1 i x3) i) 3 (-1)).1 5 = nI m := (pk_un (f := M.1) (k := 3) (j := 5) (x := -1) (by decide)).trans hm.2.1
          generalize wI (enR (sA (sA M 0 i x2) 1 i x3) i) 3 (-1) = G at e5 ⊢
          rw [e5, outR (by omega), Option.bind_some]
          dsimp only
          rw [outs, Option.bind_some]
          dsimp only
          rw [if_pos hs, if_pos rfl, outs, Option.bind_some]
          dsimp only
          rw [if_pos hf, if_pos rfl, if_pos hr]
          unfold b_X3_row_37
          rw [ref0, Option.bind_some]
          dsimp only
          rw [if_pos rfl, i2, wA_i (by rw [lnA10]; omega), Option.bind_some, wA_i (by rw [lnA7]; omega), Option.bind_some]
        · exact pk_us (f := upd M.1 3 (-1)) (k := 6) (x := 0)
        · have r3 : ∀ k, k ≠ 0 → k ≠ 1 → k ≠ 7 → k ≠ 10 → (sA (sA (wI (wI (enR (sA (sA M 0 i x2) 1 i x3) i) 3 (-1)) 6 0) 10 i x2) 7 i x3).2.1 k = M.2.1 k := fun k h0 h1 h7 h10 => (sA_ne h7).trans ((sA_ne h10).trans (show (sA (sA M 0 i x2) 1 i x3).2.1 k = _ from (sA_ne h1).trans (sA_ne h0)))
          obtain ⟨c1, c2, c3, c4, c5, c6, c7⟩ := hc
          refine INV.new ?_ ?_ (u3 (f := M.1)) ?_
          · obtain ⟨z1, z2, z3, z4, z5, z6, z7⟩ := hZ
            refine ⟨z1, z2, z3, z4, fun i' hi' => ?_, z6, z7⟩
            dsimp only
            by_cases hij : i' = i
            · rw [if_pos hij]; exact h50
            · rw [if_neg hij]; exact z5 i' hi'
          · have v1 : ∀ i', (sA (sA M 0 i x2) 1 i x3).2.1 1 i' = if i' = i then x3 else M.2.1 1 i' := fun i' => by
              rw [sA_at]
              by_cases q : i' = i
              · rw [if_pos ⟨rfl, q⟩, if_pos q]
              · rw [if_neg (fun z => q z.2), if_neg q, sA_ne (by decide)]
            have v2 : (sA (sA M 0 i x2) 1 i x3).2.1 2 = M.2.1 2 := (sA_ne (by decide)).trans (sA_ne (by decide))
            refine ⟨(u36 (f := M.1) (by decide) (by decide)).trans c1, (u36 (f := M.1) (by decide) (by decide)).trans c2, fun i' hi' c hc' => ?_, fun i' hi' => ?_, fun i' hi' => ?_, fun i' hi' => ?_, fun j' hj' => by rw [r3 3 (by decide) (by decide) (by decide) (by decide)]; exact c7 j' hj'⟩
            · refine enR_at (M := sA (sA M 0 i x2) 1 i x3) ?_ ?_ hc' ?_ ?_
              · rw [v1, if_pos rfl]; exact h50
              · rw [v2, c6 i (by omega)]; exact hZ.2.2.2.2.2.1 i (by omega)
              · intro hq
                refine (c3 i' hi' c hc').trans ?_
                unfold Eof
                dsimp only
                rcases hq with hq | hq
                · rw [if_neg hq]
                · rw [if_neg (by omega), if_neg (by omega), if_neg (by omega), if_neg (by omega)]
              · intro _
                refine ⟨?_, ?_⟩
                · rw [v1, if_pos rfl, if_pos rfl]
                · rw [v2]; exact c6 i (by omega)
            · rw [sA_ne (k' := 0) (by decide), sA_ne (k' := 0) (by decide)]
              show (sA (sA M 0 i x2) 1 i x3).2.1 0 i' = if i' = i then x2 else sn i'
              rw [sA_ne (by decide), sA_at]
              by_cases q : i' = i
              · rw [if_pos ⟨rfl, q⟩, if_pos q]
              · rw [if_neg (fun z => q z.2), if_neg q]; exact c4 i' hi'
            · rw [sA_ne (k' := 1) (by decide), sA_ne (k' := 1) (by decide)]
              show ((sA (sA M 0 i x2) 1 i x3).2.1 1 i').toInt = if i' = i then x3.toInt else b i'
              rw [v1]
              by_cases q : i' = i
              · rw [if_pos q, if_pos q]
              · rw [if_neg q, if_neg q]; exact c5 i' hi'
            · rw [r3 2 (by decide) (by decide) (by decide) (by decide)]
              exact c6 i' hi'
          · obtain ⟨d1, d2, d3, d4, d5, d6, d7⟩ := hm
            refine ⟨(u36 (f := M.1) (by decide) (by decide)).trans d1, (u36 (f := M.1) (by decide) (by decide)).trans d2, fun i' hi' j' hj' => by rw [r3 6 (by decide) (by decide) (by decide) (by decide)]; exact d3 i' hi' j' hj', fun i' hi' => ?_, fun i' hi' => by rw [r3 9 (by decide) (by decide) (by decide) (by decide)]; exact d5 i' hi', fun j' hj' => by rw [r3 8 (by decide) (by decide) (by decide) (by decide)]; exact d6 j' hj', fun i' hi' => ?_⟩
            · rw [sA_at]
              dsimp only
              by_cases q : i' = i
              · rw [if_pos ⟨rfl, q⟩, if_pos q]
              · rw [if_neg (fun z => q z.2), if_neg q, sA_ne (by decide)]
                show ((sA (sA M 0 i x2) 1 i x3).2.1 7 i').toInt = _
                rw [sA_ne (by decide), sA_ne (by decide)]
                exact d4 i' hi'
            · rw [sA_ne (k' := 10) (by decide), sA_at]
              dsimp only
              by_cases q : i' = i
              · rw [if_pos ⟨rfl, q⟩, if_pos q]
              · rw [if_neg (fun z => q z.2), if_neg q]
                show (sA (sA M 0 i x2) 1 i x3).2.1 10 i' = _
                rw [sA_ne (by decide), sA_ne (by decide)]
                exact d7 i' hi'
      · refine SET.ref (k := 2) ?_ ?_ hI
        · unfold f_L_row f_X2_row b_X2_row_0
          rw [hasR hc hm3, Option.bind_some]
          dsimp only
          rw [if_pos hr, if_neg (by decide), if_neg s1, if_neg s2]
          by_cases f1 : x3 < -50
          · rw [if_pos f1, Option.bind_some]
            dsimp only
            rw [if_neg (by decide), if_pos rfl]
          · have f2 : ¬ x3 ≤ 50 := fun q => hf ⟨by
              have : ¬ x3.toInt < (-50 : Int32).toInt := fun q => f1 (Int32.lt_iff_toInt_lt.mpr q)
              omega, Int32.le_iff_toInt_le.mp q⟩
            rw [if_neg f1, if_neg f2, Option.bind_some]
            dsimp only
            rw [if_neg (by decide), if_pos rfl]
        · unfold f_X3_row b_X3_row_0
          rw [hm.2.1, outR (by omega), Option.bind_some]
          dsimp only
          rw [outs, Option.bind_some]
          dsimp only
          rw [if_pos hs, if_pos rfl, outs, Option.bind_some]
          dsimp only
          rw [if_neg hf, if_neg (by decide), if_pos hr]
          unfold b_X3_row_32 b_X3_row_37
          rw [ref2, Option.bind_some]
          dsimp only
          rw [if_neg (by decide)]
    · refine SET.ref (k := 2) ?_ ?_ hI
      · unfold f_L_row f_X2_row b_X2_row_0
        rw [hasR hc hm3, Option.bind_some]
        dsimp only
        rw [if_pos hr, if_neg (by decide)]
        by_cases f1 : x2 < 0
        · rw [if_pos f1, Option.bind_some]
          dsimp only
          rw [if_neg (by decide), if_pos rfl]
        · have f2 : 2 < x2 := Int32.lt_iff_toInt_lt.mpr (by
            have : ¬ x2.toInt < (0 : Int32).toInt := fun q => f1 (Int32.lt_iff_toInt_lt.mpr q)
            omega)
          rw [if_neg f1, if_pos f2, Option.bind_some]
          dsimp only
          rw [if_neg (by decide), if_pos rfl]
      · unfold f_X3_row b_X3_row_0
        rw [hm.2.1, outR (by omega), Option.bind_some]
        dsimp only
        rw [outs, Option.bind_some]
        dsimp only
        rw [if_neg hs, if_neg (by decide), if_pos hr]
        unfold b_X3_row_32 b_X3_row_37
        rw [ref2, Option.bind_some]
        dsimp only
        rw [if_neg (by decide)]
  · refine SET.ref (k := 1) ?_ ?_ hI
    · unfold f_L_row f_X2_row b_X2_row_0
      rw [hasR hc hm3, Option.bind_some]
      dsimp only
      rw [if_neg hr, if_pos rfl, Option.bind_some]
      dsimp only
      rw [if_pos rfl]
    · unfold f_X3_row b_X3_row_0
      rw [hm.2.1, outR (by omega), Option.bind_some]
      dsimp only
      rw [outs, Option.bind_some]
      dsimp only
      have key : ∀ s0, b_X3_row_37 N x1 x2 x3 s0 1 M = some (wI M 6 1) := fun s0 => by
        unfold b_X3_row_37
        rw [ref1, Option.bind_some]
        dsimp only
        rw [if_neg (by decide)]
      rw [if_neg hr]
      by_cases hs : (0 : Int32).toInt ≤ x2.toInt ∧ x2.toInt ≤ (2 : Int32).toInt
      · rw [if_pos hs, if_pos rfl, outs, Option.bind_some]
        dsimp only
        by_cases hf : (-50 : Int32).toInt ≤ x3.toInt ∧ x3.toInt ≤ (50 : Int32).toInt
        · rw [if_pos hf, if_pos rfl]
          exact key 0
        · rw [if_neg hf, if_neg (by decide)]
          exact key 1
      · rw [if_neg hs, if_neg (by decide)]
        exact key 1
theorem t_drift {N : Nat} (h : INV M n m a b e cc sn) (x1 x2 : Int32) : SET (f_L_drift N x1 x2 M) (f_X3_drift N x1 x2) := by
  obtain ⟨hZ, hc, hh, hm⟩ := h
  have hI : INV M n m a b e cc sn := ⟨hZ, hc, hh, hm⟩
  have hm3 := hZ.2.2.1
  by_cases hr : inR x1 m
  · by_cases hf : (-9 : Int32).toInt ≤ x2.toInt ∧ x2.toInt ≤ (9 : Int32).toInt
    · obtain ⟨i, i1, i2⟩ := inR_nI hr (by omega)
      refine ⟨0, wI (enR (sA M 2 i x2) i) 3 (-1), sA (wI (wI (enR (sA M 2 i x2) i) 3 (-1)) 6 0) 9 i x2, ?_, ?_, ?_, n, m, a, b, fun i' => if i' = i then x2.toInt else e i', cc, sn, ?_⟩
      · unfold f_L_drift f_X2_drift b_X2_drift_0
        rw [hasR hc hm3, Option.bind_some]
        dsimp only
        rw [if_pos hr, if_neg (by decide), isFac, Option.bind_some]
        dsimp only
        rw [if_pos hf, if_neg (by decide)]
        unfold f_X1_setDrift b_X1_setDrift_0 f_X0_forget b_X0_forget_0
        rw [i2, wA_i (by rw [lnA2]; omega), Option.bind_some, entR (by omega), Option.bind_some, Option.bind_some, Option.bind_some, Option.bind_some]
      · unfold f_X3_drift b_X3_drift_0
        have e5 : (wI (enR (sA M 2 i x2) i) 3 (-1)).1 5 = nI m := (pk_un (f := M.1) (k := 3) (j := 5) (x := -1) (by decide)).trans hm.2.1
        generalize wI (enR (sA M 2 i x2) i) 3 (-1) = G at e5 ⊢
        rw [e5, outR (by omega), Option.bind_some]
        dsimp only
        rw [outs, Option.bind_some]
        dsimp only
        rw [if_pos hr, if_pos hf, ref0, Option.bind_some]
        dsimp only
        rw [if_pos rfl, i2, wA_i (by rw [lnA9]; omega), Option.bind_some]
      · exact pk_us (f := upd M.1 3 (-1)) (k := 6) (x := 0)
      · have r3 : ∀ k, k ≠ 2 → k ≠ 9 → (sA (wI (wI (enR (sA M 2 i x2) i) 3 (-1)) 6 0) 9 i x2).2.1 k = M.2.1 k := fun k h0 h1 => (sA_ne h1).trans (show (sA M 2 i x2).2.1 k = _ from sA_ne h0)
        obtain ⟨c1, c2, c3, c4, c5, c6, c7⟩ := hc
        refine INV.new ?_ ?_ (u3 (f := M.1)) ?_
        · obtain ⟨z1, z2, z3, z4, z5, z6, z7⟩ := hZ
          refine ⟨z1, z2, z3, z4, z5, fun i' hi' => ?_, z7⟩
          dsimp only
          by_cases hij : i' = i
          · rw [if_pos hij]; exact fac_b hf
          · rw [if_neg hij]; exact z6 i' hi'
        · have v1 : (sA M 2 i x2).2.1 1 = M.2.1 1 := sA_ne (by decide)
          have v2 : ∀ i', (sA M 2 i x2).2.1 2 i' = if i' = i then x2 else M.2.1 2 i' := fun i' => by
            rw [sA_at]
            by_cases q : i' = i
            · rw [if_pos ⟨rfl, q⟩, if_pos q]
            · rw [if_neg (fun z => q z.2), if_neg q]
          refine ⟨(u36 (f := M.1) (by decide) (by decide)).trans c1, (u36 (f := M.1) (by decide) (by decide)).trans c2, fun i' hi' c hc' => ?_, fun i' hi' => by rw [r3 0 (by decide) (by decide)]; exact c4 i' hi', fun i' hi' => by rw [r3 1 (by decide) (by decide)]; exact c5 i' hi', fun i' hi' => ?_, fun j' hj' => by rw [r3 3 (by decide) (by decide)]; exact c7 j' hj'⟩
          · refine enR_at (M := sA M 2 i x2) ?_ ?_ hc' ?_ ?_
            · rw [v1, c5 i (by omega)]; exact hZ.2.2.2.2.1 i (by omega)
            · rw [v2, if_pos rfl]; exact fac_b hf
            · intro hq
              refine (c3 i' hi' c hc').trans ?_
              unfold Eof
              dsimp only
              rcases hq with hq | hq
              · rw [if_neg hq]
              · rw [if_neg (by omega), if_neg (by omega), if_neg (by omega), if_neg (by omega)]
            · intro _
              refine ⟨by rw [v1]; exact c5 i (by omega), ?_⟩
              rw [v2, if_pos rfl, if_pos rfl]
          · rw [sA_ne (k' := 2) (by decide)]
            show ((sA M 2 i x2).2.1 2 i').toInt = if i' = i then x2.toInt else e i'
            rw [v2]
            by_cases q : i' = i
            · rw [if_pos q, if_pos q]
            · rw [if_neg q, if_neg q]; exact c6 i' hi'
        · obtain ⟨d1, d2, d3, d4, d5, d6, d7⟩ := hm
          refine ⟨(u36 (f := M.1) (by decide) (by decide)).trans d1, (u36 (f := M.1) (by decide) (by decide)).trans d2, fun i' hi' j' hj' => by rw [r3 6 (by decide) (by decide)]; exact d3 i' hi' j' hj', fun i' hi' => by rw [r3 7 (by decide) (by decide)]; exact d4 i' hi', fun i' hi' => ?_, fun j' hj' => by rw [r3 8 (by decide) (by decide)]; exact d6 j' hj', fun i' hi' => by rw [r3 10 (by decide) (by decide)]; exact d7 i' hi'⟩
          rw [sA_at]
          dsimp only
          by_cases q : i' = i
          · rw [if_pos ⟨rfl, q⟩, if_pos q]
          · rw [if_neg (fun z => q z.2), if_neg q]
            show ((sA M 2 i x2).2.1 9 i').toInt = _
            rw [sA_ne (by decide)]
            exact d5 i' hi'
    · refine SET.ref (k := 2) ?_ ?_ hI
      · unfold f_L_drift f_X2_drift b_X2_drift_0
        rw [hasR hc hm3, Option.bind_some]
        dsimp only
        rw [if_pos hr, if_neg (by decide), isFac, Option.bind_some]
        dsimp only
        rw [if_neg hf, if_pos rfl, Option.bind_some]
        dsimp only
        rw [if_neg (by decide), if_pos rfl]
      · unfold f_X3_drift b_X3_drift_0
        rw [hm.2.1, outR (by omega), Option.bind_some]
        dsimp only
        rw [outs, Option.bind_some]
        dsimp only
        rw [if_pos hr, if_neg hf, ref2, Option.bind_some]
        dsimp only
        rw [if_neg (by decide)]
  · refine SET.ref (k := 1) ?_ ?_ hI
    · unfold f_L_drift f_X2_drift b_X2_drift_0
      rw [hasR hc hm3, Option.bind_some]
      dsimp only
      rw [if_neg hr, if_pos rfl, Option.bind_some]
      dsimp only
      rw [if_pos rfl]
    · unfold f_X3_drift b_X3_drift_0
      rw [hm.2.1, outR (by omega), Option.bind_some]
      dsimp only
      rw [outs, Option.bind_some]
      dsimp only
      rw [if_neg hr, ref1, Option.bind_some]
      dsimp only
      rw [if_neg (by decide)]
end Sr
