theorem stp0 {A : Nat → Nat → Int} {r c : Nat} : stp A 0 r c = A r c := by
  unfold stp
  rw [if_neg (by omega), c2_all (by omega) r c]
  show 1 * A r c - 0 = A r c
  omega
theorem stp_swap {P : Nat → Nat → Int} {k r0 : Nat} (h0 : k ≤ r0) (r c : Nat) : stp P k (if r = k then r0 else if r = r0 then k else r) c = stp (fun r c => P (if r = k then r0 else if r = r0 then k else r) c) k r c := by
  have hlow : ∀ i, i < k → ∀ c, P i c = (fun r c => P (if r = k then r0 else if r = r0 then k else r) c) i c := fun i hi c => by
    show P i c = P (if i = k then r0 else if i = r0 then k else i) c
    rw [if_neg (by omega), if_neg (by omega)]
  unfold stp
  by_cases h : r < k
  · rw [if_pos h, if_neg (show ¬ r = k by omega), if_neg (show ¬ r = r0 by omega), if_pos h]
    exact rep_congr hlow
  · rw [if_neg h]
    have hge : ¬ (if r = k then r0 else if r = r0 then k else r) < k := by split <;> (try split) <;> omega
    rw [if_neg hge]
    exact bdr_congr hlow (fun _ => rfl)
theorem stp_last {P : Nat → Nat → Int} {k c : Nat} : stp P (k + 1) k c = stp P k k c := by
  unfold stp
  rw [if_pos (by omega), if_neg (by omega), rep_last]
theorem stp_k {P : Nat → Nat → Int} {k : Nat} : stp P k k k = Dk P (k + 1) := by
  unfold stp
  rw [if_neg (by omega)]
  rfl
set_option maxHeartbeats 1000000 in
theorem slv_find {N w k : Nat} (hw5 : w ≤ 5) (hk : k < w) (k4 : Int64 → Int32 → Mm → Option (Int64 × Mm)) (x1 : Int64) (M : Mm) (hw : M.1 7 = nI w) : ∀ (d r fuel : Nat), r + d = w → k ≤ r → d < fuel → (∀ r', k ≤ r' → r' < r → (M.2.2 1 (6 * r' + k)).toInt = 0) →
    (∃ r0, k ≤ r0 ∧ r0 < w ∧ (M.2.2 1 (6 * r0 + k)).toInt ≠ 0 ∧ lpT (fun _ _ _ _ => none) (F_X3_solved_15 N k4) fuel x1 (nI k) (nI r) M = b_X3_solved_47 N k4 x1 (nI k) (nI r0) M) ∨
    ((∀ r', k ≤ r' → r' < w → (M.2.2 1 (6 * r' + k)).toInt = 0) ∧ lpT (fun _ _ _ _ => none) (F_X3_solved_15 N k4) fuel x1 (nI k) (nI r) M = some (0, M)) := by
  intro d
  induction d with
  | zero =>
    intro r fuel hr hkr hf hz
    obtain ⟨n, rfl, -⟩ := fuel_s hf
    refine Or.inr ⟨fun r' h1 h2 => hz r' h1 (by omega), ?_⟩
    rw [lp_s]
    unfold F_X3_solved_15
    rw [hw, if_pos ((nI_leI (by omega) (by omega)).mpr (by omega))]
    unfold b_X3_solved_47
    rw [hw, if_pos ((nI_eq (by omega) (by omega)).mpr (by omega))]
  | succ d ih =>
    intro r fuel hr hkr hf hz
    obtain ⟨n, rfl, hn⟩ := fuel_s hf
    have e : ∀ X, lpT (fun _ _ _ _ => none) (F_X3_solved_15 N k4) (n + 1) x1 (nI k) (nI r) M = X ↔ (if (lg_cmp (M.2.2 1 (6 * r + k)) 0) = 0 then lpT (fun _ _ _ _ => none) (F_X3_solved_15 N k4) n x1 (nI k) (nI (r + 1)) M else b_X3_solved_47 N k4 x1 (nI k) (nI r) M) = X := by
      intro X
      rw [lp_s]
      generalize lpT (fun _ _ _ _ => none) (F_X3_solved_15 N k4) n = g
      unfold F_X3_solved_15
      rw [hw, if_neg (fun h => by have := (nI_leI (by omega) (by omega)).mp h; omega), ix6, rL_i (by rw [lnL1]; omega), Option.bind_some, nI_1]
    by_cases h : (M.2.2 1 (6 * r + k)).toInt = 0
    · rcases ih (r + 1) n (by omega) (by omega) (by omega) (fun r' h1 h2 => by
        by_cases e' : r' = r
        · rw [e']; exact h
        · exact hz r' h1 (by omega)) with ⟨r0, g1, g2, g3, g4⟩ | ⟨g1, g2⟩
      · exact Or.inl ⟨r0, g1, g2, g3, (e _).mpr (by rw [if_pos (cmp_eq.mpr (by rw [h, l0]))]; exact g4)⟩
      · exact Or.inr ⟨g1, (e _).mpr (by rw [if_pos (cmp_eq.mpr (by rw [h, l0]))]; exact g2)⟩
    · exact Or.inl ⟨r, hkr, by omega, h, (e _).mpr (if_neg (fun q => h (by rw [cmp_eq.mp q, l0])))⟩
/-- what solved answers: no pivot, and then the columns depend on each other; or the determinant, and the solution in the last column -/
def slvd (A : Nat → Nat → Int) (w : Nat) (res : Int64) (M' : Mm) : Prop :=
  (res.toInt = 0 ∧ ∃ z : Nat → Int, (∃ c, c < w ∧ z c ≠ 0) ∧ ∀ j, j < w → sm (fun c => A j c * z c) w = 0) ∨
  (res.toInt ≠ 0 ∧ ∃ P, rowsOf P A w ∧ res.toInt = Dk P w ∧ ∀ r, r < w → (M'.2.2 1 (6 * r + w)).toInt = rep P w r w)
set_option maxHeartbeats 2000000 in
theorem slv_loop {N w : Nat} (hN : 10 ≤ N) (hw5 : w ≤ 5) {A : Nat → Nat → Int} (hs : ∀ j, j < w → sm (fun c => ab (A j c)) (w + 1) ≤ 95) : ∀ (d k fuel : Nat) (x1 : Int64) (M : Mm) (P : Nat → Nat → Int), k + d = w → d < fuel → M.1 7 = nI w → rowsOf P A w → mt M w (stp P k) → x1.toInt = Dk P k → Dk P k ≠ 0 →
    ∃ res M', lpT (fun _ _ _ => none) (F_X3_solved_4 N) fuel x1 (nI k) M = some (res, M') ∧ fr1 M M' ∧ slvd A w res M' := by
  intro d
  induction d with
  | zero =>
    intro k fuel x1 M P hk hf hw hP hm hx hD
    obtain ⟨n, rfl, -⟩ := fuel_s hf
    have hkw : k = w := by omega
    subst hkw
    refine ⟨x1, M, ?_, fr1.rf, Or.inr ⟨by rw [hx]; exact hD, P, hP, hx, fun r hr => ?_⟩⟩
    · rw [lp_s]
      unfold F_X3_solved_4
      rw [hw, if_pos (Int32.le_refl _)]
    · rw [hm r hr k (Nat.le_refl _)]
      unfold stp
      rw [if_pos hr]
  | succ d ih =>
    intro k fuel x1 M P hk hf hw hP hm hx hD
    obtain ⟨n, rfl, hn⟩ := fuel_s hf
    have hkw : k < w := by omega
    have hstep : lpT (fun _ _ _ => none) (F_X3_solved_4 N) (n + 1) x1 (nI k) M = b_X3_solved_15 N (lpT (fun _ _ _ => none) (F_X3_solved_4 N) n) x1 (nI k) (nI k) M := by
      rw [lp_s]
      generalize lpT (fun _ _ _ => none) (F_X3_solved_4 N) n = g
      unfold F_X3_solved_4
      rw [hw, if_neg (fun h => by have := (nI_leI (by omega) (by omega)).mp h; omega)]
    rw [hstep]
    rcases slv_find (N := N) hw5 hkw (lpT (fun _ _ _ => none) (F_X3_solved_4 N) n) x1 M hw d.succ k N (by omega) (Nat.le_refl _) (by omega) (fun r' h1 h2 => by omega) with ⟨r0, g1, g2, g3, g4⟩ | ⟨g1, g2⟩
    · have g3' : stp P k r0 k ≠ 0 := by rw [← hm r0 g2 k (by omega)]; exact g3
      obtain ⟨M1, s1, s2, s3⟩ := swp (N := N) hN hw5 hkw g2 hw hm
      obtain ⟨P', hP'⟩ : ∃ P' : Nat → Nat → Int, P' = fun r c => P (if r = k then r0 else if r = r0 then k else r) c := ⟨_, rfl⟩
      have hPP : rowsOf P' A w := by rw [hP']; exact hP.swap hw5 g1 hkw g2
      have s3' : mt M1 w (stp P' k) := fun r hr c hc => by rw [s3 r hr c hc, hP']; exact stp_swap g1 r c
      have hDk : Dk P' k = Dk P k := Dk_congr (fun i hi c => by
        rw [hP']
        show P (if i = k then r0 else if i = r0 then k else i) c = P i c
        rw [if_neg (by omega), if_neg (by omega)])
      have hD1 : Dk P' (k + 1) ≠ 0 := by
        rw [← stp_k, hP', ← stp_swap g1 k k, if_pos rfl]
        exact g3'
      have hw1 : M1.1 7 = nI w := by rw [s2.1]; exact hw
      have hD' : Dk P' k ≠ 0 := by rw [hDk]; exact hD
      have bl : ∀ r, r < k → ∀ c, c ≤ w → ab (stp P' k r c) ≤ 95 ^ k := fun r hr c hc => by
        unfold stp; rw [if_pos hr]; exact rep_95 hs hPP hw5 (by omega) hr hc hD'
      have bh : ∀ r, k ≤ r → r < w → ∀ c, c ≤ w → ab (stp P' k r c) ≤ 95 ^ (k + 1) := fun r h1 h2 c hc => by
        unfold stp; rw [if_neg (by omega)]; exact bdr_95 hs hPP hw5 hkw h2 hc hD'
      obtain ⟨M2, c1, c2, c3⟩ := clr (N := N) hN hw5 hkw (x2 := x1) (by rw [hx]; exact hD) (A := stp P' k) (Q := stp P' (k + 1)) hw1 s3'
        (fun r hr hne c hc => by
          rw [stp_k, hx, ← hDk]
          by_cases h : r < k
          · have e := ba_2 (M := P') (k := k) (by omega) h hD1 c
            unfold stp
            rw [if_pos h, if_pos h, if_neg (Nat.lt_irrefl k), if_pos (by omega)]
            exact e
          · have e := ba_1 (M := P') (k := k) (by omega) hD1 r c
            unfold stp
            rw [if_neg h, if_neg h, if_neg (Nat.lt_irrefl k), if_neg (by omega)]
            exact e)
        (fun r hr hne c hc => by
          by_cases h : r < k
          · exact ab_p (bh k (Nat.le_refl _) hkw k (by omega)) (bl r h c hc) (k := k) (by omega) (by omega) (by omega) (by omega)
          · exact ab_p (bh k (Nat.le_refl _) hkw k (by omega)) (bh r (by omega) hr c hc) (k := k) (by omega) (by omega) (by omega) (by omega))
        (fun r hr hne c hc => by
          by_cases h : r < k
          · exact ab_p (bl r h k (by omega)) (bh k (Nat.le_refl _) hkw c hc) (k := k) (by omega) (by omega) (by omega) (by omega)
          · exact ab_p (bh r (by omega) hr k (by omega)) (bh k (Nat.le_refl _) hkw c hc) (k := k) (by omega) (by omega) (by omega) (by omega))
      have c3' : mt M2 w (stp P' (k + 1)) := fun r hr c hc => by
        rw [c3 r hr c hc]
        show (if r = k then stp P' k k c else stp P' (k + 1) r c) = _
        by_cases e : r = k
        · rw [if_pos e, e, stp_last]
        · rw [if_neg e]
      have hw2 : M2.1 7 = nI w := by rw [c2.1]; exact hw1
      have hv : (M2.2.2 1 (6 * k + k)).toInt = Dk P' (k + 1) := by rw [c3' k hkw k (by omega), stp_last, stp_k]
      obtain ⟨res, M', i1, i2, i3⟩ := ih (k + 1) n (M2.2.2 1 (6 * k + k)) M2 P' (by omega) (by omega) hw2 hPP c3' hv hD1
      refine ⟨res, M', ?_, (s2.tr c2).tr i2, i3⟩
      refine g4.trans ?_
      unfold b_X3_solved_47
      rw [hw, if_neg (fun h => by have := (nI_eq (by omega) (by omega)).mp h; omega), s1, Option.bind_some, c1, Option.bind_some, ix7, show 7 * k = 6 * k + k by omega, rL_i (by rw [lnL1]; omega), Option.bind_some, nI_1]
      exact i1
    · refine ⟨0, M, g2, fr1.rf, Or.inl ⟨l0, fun c => if c < k then rep P k c k else if c = k then - Dk P k else 0, ⟨k, hkw, ?_⟩, fun j hj => ?_⟩⟩
      · show (if k < k then _ else if k = k then - Dk P k else 0) ≠ 0
        rw [if_neg (by omega), if_pos rfl]
        omega
      · obtain ⟨i, hi, he⟩ := hP.2.1 j hj
        have e0 : ∀ n, k + 1 + n ≤ w → sm (fun c => A j c * (if c < k then rep P k c k else if c = k then - Dk P k else 0)) (k + 1 + n) = sm (fun c => P i c * rep P k c k) k - P i k * Dk P k := by
          intro n
          induction n with
          | zero =>
            intro _
            show sm _ k + A j k * (if k < k then _ else if k = k then - Dk P k else 0) = _
            rw [if_neg (by omega), if_pos rfl, sm_congr (g := fun c => P i c * rep P k c k) (fun c hc => by rw [if_pos hc, he]), ← he, Int.mul_neg]
            omega
          | succ n ihn =>
            intro hn
            show sm _ (k + 1 + n) + A j (k + 1 + n) * (if k + 1 + n < k then _ else if k + 1 + n = k then _ else 0) = _
            rw [ihn (by omega), if_neg (by omega), if_neg (by omega)]
            omega
        have e1 := e0 (w - (k + 1)) (by omega)
        rw [show k + 1 + (w - (k + 1)) = w by omega] at e1
        rw [e1]
        by_cases h : i < k
        · rw [c1_all (by omega) h k, Int.mul_comm]; omega
        · have e2 := c2_all (M := P) (k := k) (by omega) i k
          have e3 : bdr P k i k = 0 := by
            have := g1 i (by omega) hi
            rw [hm i hi k (by omega)] at this
            unfold stp at this
            rw [if_neg h] at this
            exact this
          rw [e3, Int.mul_comm] at e2
          omega
theorem slv {N w : Nat} (hN : 10 ≤ N) (hw5 : w ≤ 5) {A : Nat → Nat → Int} (hs : ∀ j, j < w → sm (fun c => ab (A j c)) (w + 1) ≤ 95) {M : Mm} (hw : M.1 7 = nI w) (hm : mt M w A) : ∃ res M', f_X3_solved N M = some (res, M') ∧ fr1 M M' ∧ slvd A w res M' :=
  slv_loop hN hw5 hs w 0 N 1 M A (by omega) (by omega) hw ⟨fun i hi => ⟨i, hi, fun _ => rfl⟩, fun j hj => ⟨j, hj, fun _ => rfl⟩, fun _ _ => rfl⟩ (fun r hr c hc => by rw [stp0]; exact hm r hr c hc) (by show Int64.toInt 1 = 1; decide) (by show (1 : Int) ≠ 0; decide)

theorem slv_one {P A : Nat → Nat → Int} {w : Nat} (hw5 : w ≤ 5) (hP : rowsOf P A w) (hD : Dk P w ≠ 0) {z : Nat → Int} (hz : ∀ j, j < w → sm (fun c => A j c * z c) w = 0) : ∀ c, c < w → z c = 0 := fun c hc =>
  c3_all (M := P) hw5 hc hD (fun i hi => by
    obtain ⟨j, hj, he⟩ := hP.1 i hi
    rw [sm_congr (g := fun c => A j c * z c) (fun c _ => by rw [he])]
    exact hz j hj)
theorem slv_sol {P A : Nat → Nat → Int} {w : Nat} (hw5 : w ≤ 5) (hP : rowsOf P A w) : ∀ j, j < w → sm (fun c => A j c * rep P w c w) w = Dk P w * A j w := fun j hj => by
  obtain ⟨i, hi, he⟩ := hP.2.1 j hj
  rw [sm_congr (g := fun c => P i c * rep P w c w) (fun c _ => by rw [he]), c1_all hw5 hi w, he]
