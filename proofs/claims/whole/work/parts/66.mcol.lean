/-! THE REFERENCE'S LIST in a mode, and the edge rays -/
/-- the reference's memory holds the program -/
def MDT (M : Mm) (n m : Nat) (a : Nat → Nat → Int) (b e cc : Nat → Int) (sn : Nat → Int32) : Prop :=
  M.1 4 = nI n ∧ M.1 5 = nI m ∧ (∀ i, i < 3 → ∀ j, j < 4 → (M.2.1 6 (4 * i + j)).toInt = a i j) ∧ (∀ i, i < 3 → (M.2.1 7 i).toInt = b i) ∧ (∀ i, i < 3 → (M.2.1 9 i).toInt = e i) ∧ (∀ j, j < 4 → (M.2.1 8 j).toInt = cc j) ∧ ∀ i, i < 3 → M.2.1 10 i = sn i
/-- what the reference's collect changes -/
def FRm (M M' : Mm) : Prop := (∀ k, k ≠ 7 → k ≠ 8 → k ≠ 9 → M'.1 k = M.1 k) ∧ (∀ k, k ≠ 11 → k ≠ 12 → k ≠ 13 → M'.2.1 k = M.2.1 k) ∧ ∀ k, k = 0 ∨ 5 ≤ k → M'.2.2 k = M.2.2 k
theorem FRm.rf {M : Mm} : FRm M M := ⟨fun _ _ _ _ => rfl, fun _ _ _ _ => rfl, fun _ _ => rfl⟩
theorem FRm.tr {M M' M'' : Mm} (h : FRm M M') (h' : FRm M' M'') : FRm M M'' := ⟨fun k a b c => (h'.1 k a b c).trans (h.1 k a b c), fun k a b c => (h'.2.1 k a b c).trans (h.2.1 k a b c), fun k hk => (h'.2.2 k hk).trans (h.2.2 k hk)⟩
theorem MDT.kept {M M' : Mm} {n m : Nat} {a : Nat → Nat → Int} {b e cc : Nat → Int} {sn : Nat → Int32} (h : MDT M n m a b e cc sn) (hF : FRm M M') : MDT M' n m a b e cc sn := by
  obtain ⟨h1, h2, h3, h4, h5, h6, h7⟩ := h
  have f := fun k a b c => hF.2.1 k a b c
  refine ⟨?_, ?_, fun i hi j hj => ?_, fun i hi => ?_, fun i hi => ?_, fun i hi => ?_, fun i hi => ?_⟩
  · rw [hF.1 4 (by decide) (by decide) (by decide)]; exact h1
  · rw [hF.1 5 (by decide) (by decide) (by decide)]; exact h2
  · rw [f 6 (by decide) (by decide) (by decide)]; exact h3 i hi j hj
  · rw [f 7 (by decide) (by decide) (by decide)]; exact h4 i hi
  · rw [f 9 (by decide) (by decide) (by decide)]; exact h5 i hi
  · rw [f 8 (by decide) (by decide) (by decide)]; exact h6 i hi
  · rw [f 10 (by decide) (by decide) (by decide)]; exact h7 i hi
/-- the list of f points stands for the edge rays of the mode -/
def MLS (M : Mm) (x2 : Int32) (n m mask : Nat) (a : Nat → Nat → Int) (b e cc : Nat → Int) (sn : Nat → Int32) (w f : Nat) : Prop :=
  (∀ g, g < f → ∃ v d, VT M g w n cc v d ∧ 0 < d ∧ d ≤ Kd x2 ∧ (∀ j, j < w → 0 ≤ v j ∧ v j ≤ Kv x2) ∧ (x2 = 2 → v n ≤ d) ∧ ∃ S R, cand n m mask (Eof a b e) sn S R ∧ VV x2 n (ryv (Eof a b e) S R) ∧ 0 < DD x2 n (ryv (Eof a b e) S R) ∧ ∀ j, j < w → XX n (ryv (Eof a b e) S R) j * d = v j * DD x2 n (ryv (Eof a b e) S R)) ∧
  ∀ S R, cand n m mask (Eof a b e) sn S R → VV x2 n (ryv (Eof a b e) S R) → 0 < DD x2 n (ryv (Eof a b e) S R) → ∃ g, g < f ∧ ∃ v d, VT M g w n cc v d ∧ 0 < d ∧ ∀ j, j < w → XX n (ryv (Eof a b e) S R) j * d = v j * DD x2 n (ryv (Eof a b e) S R)
theorem VT.un {M : Mm} {g w n : Nat} {cc v v' : Nat → Int} {d d' : Int} (h : VT M g w n cc v d) (h' : VT M g w n cc v' d') : d = d' ∧ ∀ j, j < w → v j = v' j := ⟨h.1.symm.trans h'.1, fun j hj => (h.2.1 j hj).symm.trans (h'.2.1 j hj)⟩
set_option maxHeartbeats 1000000 in
theorem mcol {N n m mask : Nat} (hN : 600 ≤ N) {a : Nat → Nat → Int} {b e cc : Nat → Int} {sn : Nat → Int32} (hZ : PZ n m a b e cc) (hmk : mask < 2 ^ m) {x2 : Int32} {w : Nat} (hx : (x2 = 2 ∧ w = n + 1) ∨ ((x2 = 0 ∨ x2 = 1) ∧ w = n)) {M : Mm} (hM : MDT M n m a b e cc sn) :
    ∃ M' f, f_X3_collect N (nI mask) x2 M = some M' ∧ FRm M M' ∧ M'.1 9 = nI f ∧ M'.1 7 = nI w ∧ f ≤ 126 ∧ MLS M' x2 n m mask a b e cc sn w f := by
  have hn := hZ.2.1
  have hm := hZ.2.2.1
  have h8 := pow3 m hm
  have hw5 : w ≤ 5 := by rcases x2c hx with ⟨-, h⟩ | ⟨-, h⟩ | ⟨-, h⟩ <;> omega
  have hnw : n ≤ w := by rcases x2c hx with ⟨-, h⟩ | ⟨-, h⟩ | ⟨-, h⟩ <;> omega
  obtain ⟨M1, s1, s2, s3, s4, s5, s6, s7, s8, s9⟩ := su (N := N) (by omega) hn hm (show mask < 2 ^ 31 by omega) x2 hx hM.1 hM.2.1 (fun i hi => by rw [hM.2.2.2.2.1 i (by omega)]; exact hZ.2.2.2.2.2.1 i (by omega))
  obtain ⟨B, hB⟩ : ∃ B, B = (if x2 = 0 then ct mask m + w else ct mask m + w + 1) := ⟨_, rfl⟩
  have hB9 : B ≤ 9 := by
    have := ct_le mask m
    rcases x2c hx with ⟨h0, h⟩ | ⟨h0, h⟩ | ⟨h0, h⟩ <;> subst h0
    · rw [if_pos rfl] at hB; omega
    · rw [if_neg (by decide)] at hB; omega
    · rw [if_neg (by decide)] at hB; omega
  rw [← hB] at s3
  obtain ⟨bb, hbb⟩ : ∃ bb : Nat → Nat → Int, ∀ k j, (M1.2.1 11 (5 * k + j)).toInt = bb k j := ⟨fun k j => (M1.2.1 11 (5 * k + j)).toInt, fun _ _ => rfl⟩
  obtain ⟨br, hbr⟩ : ∃ br : Nat → Int, ∀ k, (M1.2.1 13 k).toInt = br k := ⟨fun k => (M1.2.1 13 k).toInt, fun _ => rfl⟩
  obtain ⟨bs, hbs⟩ : ∃ bs : Nat → Int32, ∀ k, M1.2.1 12 k = bs k := ⟨fun k => M1.2.1 12 k, fun _ => rfl⟩
  have hMB : MBD x2 n m mask a b e sn w B bb br bs := by
    refine ⟨hx, hB, fun i hi hb => ?_, fun j hj => ?_, fun h0 => ?_⟩
    · obtain ⟨r1, r2, r3⟩ := s7 i hi hb
      refine ⟨fun c hc => ?_, ?_, ?_⟩
      · rw [← hbb, r1 c hc]
        unfold rowZ
        by_cases hcn : c < n
        · rw [if_pos hcn, if_pos hcn, hM.2.2.1 i (by omega) c (by omega)]
        · rw [if_neg hcn, if_neg hcn, hM.2.2.2.2.1 i (by omega)]
      · rw [← hbs, r2]; exact hM.2.2.2.2.2.2 i (by omega)
      · rw [← hbr, r3]
        unfold rgtZ
        rw [hM.2.2.2.1 i (by omega)]
    · obtain ⟨r1, r2, r3⟩ := s8 j hj
      exact ⟨fun c hc => by rw [← hbb]; exact r1 c hc, by rw [← hbs]; exact r2, by rw [← hbr]; exact r3⟩
    · obtain ⟨r1, r2, r3⟩ := s9 h0
      exact ⟨fun c hc => by rw [← hbb]; exact r1 c hc, by rw [← hbs]; exact r2, by rw [← hbr]; exact r3⟩
  have hcw : ∀ k, k < B → ab (br k) ≤ 50 ∧ (∀ j, j < w → ab (bb k j) ≤ 50) ∧ sm (fun j => ab (bb k j)) w + ab (br k) ≤ 95 := fun k hk => by
    by_cases hlt : k < ct mask m
    · obtain ⟨b1, b2⟩ := row_b hZ hMB hlt
      refine ⟨b2, fun j hj => Int.le_trans (b1 j (by omega)) (by decide), ?_⟩
      have hs := sm_le (f := fun j => ab (bb k j)) (B := 9) (n := w) (fun j hj => by
        have := b1 j (by omega)
        have h0 := ab_nn (bb k j)
        show ab (ab _) ≤ 9
        exact ab_le.mpr ⟨by omega, this⟩)
      have := (ab_le.mp hs).2
      omega
    · obtain ⟨o1, -⟩ := oth_b hn hMB (show ct mask m ≤ k by omega) hk
      have h0 := ab_nn (br k)
      have hs0 : ∀ t, t ≤ w → 0 ≤ sm (fun j => ab (bb k j)) t := fun t _ => by
        have := sm_mono (f := fun j => ab (bb k j)) (fun c => ab_nn _) (Nat.zero_le t)
        exact this
      have hsw := hs0 w (Nat.le_refl _)
      refine ⟨by omega, fun j hj => ?_, by omega⟩
      have h1 := sm_mono (f := fun j => ab (bb k j)) (fun c => ab_nn _) (show j + 1 ≤ w by omega)
      have h2 := hs0 j (by omega)
      have h3 : sm (fun j => ab (bb k j)) (j + 1) = sm (fun j => ab (bb k j)) j + ab (bb k j) := rfl
      omega
  have hBZ : BZ w B n bb br cc := ⟨hw5, hB9, hnw, hn, fun k hk => ⟨(hcw k hk).2.2, (hcw k hk).2.1, (hcw k hk).1⟩, fun j hj => hZ.2.2.2.2.2.2 j (by omega)⟩
  obtain ⟨M2, hM2⟩ : ∃ M2, M2 = wI M1 9 (nI 0) := ⟨_, rfl⟩
  have hBD : BD M2 w B n bb br bs cc := by
    refine ⟨?_, ?_, ?_, fun k _ j _ => by rw [hM2]; exact hbb k j, fun k _ => by rw [hM2]; exact hbr k, fun k _ => by rw [hM2]; exact hbs k, fun j hj => ?_⟩
    · rw [hM2]; show upd M1.1 9 (nI 0) 7 = _; rw [pk_un (by decide)]; exact s2
    · rw [hM2]; show upd M1.1 9 (nI 0) 8 = _; rw [pk_un (by decide)]; exact s3
    · rw [hM2]; show upd M1.1 9 (nI 0) 4 = _; rw [pk_un (by decide), s4 4 (by decide) (by decide)]; exact hM.1
    · rw [hM2]; show (M1.2.1 8 j).toInt = _; rw [s5 8 (by decide) (by decide) (by decide)]; exact hM.2.2.2.2.2.1 j (by omega)
  obtain ⟨M', f, c1, c2, c3, c4, c5, c6, c7⟩ := col (N := N) hN hBZ (by have := hZ.1; omega) hBD (by rw [hM2]; exact pk_us (f := M1.1) (k := 9))
  refine ⟨M', f, ?_, ⟨fun k h1 h2 h3 => ?_, fun k h1 h2 h3 => ?_, fun k hk => ?_⟩, c3, ?_, c2, fun g hg => ?_, fun S R hc hV hD => ?_⟩
  · unfold f_X3_collect b_X3_collect_0
    rw [s1, Option.bind_some, show wI M1 9 0 = M2 from hM2.symm]
    exact c1
  · rw [c4 k h3, hM2]
    show upd M1.1 9 (nI 0) k = _
    rw [pk_un h3, s4 k h1 h2]
  · rw [c5, hM2]
    exact s5 k h1 h2 h3
  · rw [c6 k hk, hM2]
    show M1.2.2 k = _
    rw [s6]
  · rw [c4 7 (by decide)]; exact hBD.1
  · obtain ⟨p, v, d, q1, q2, q3, q4⟩ := c7.1 g hg
    obtain ⟨z, z1, z2, z3, z4⟩ := mb_sound hn hMB q2 q3
    obtain ⟨S, R, k1, k2, k3⟩ := ext_cand hn hm z1
    have vb := vtx_b hZ hMB q2
    have hd : 0 < d := q2.1
    have nn := z1.1
    have h64 := pow6 n hn
    have hS' : S < 64 := by have := k1.1; omega
    have ex : ∀ c, c < 6 → (z c = 0 ↔ ryv (Eof a b e) S R c = 0) := fun c hc => by
      by_cases hb : bt S c
      · have h1 := (k2 c hc).mp hb
        have h2 := ray_pos k1.2.2.2.2.1 hc hb
        constructor <;> intro h <;> omega
      · have h1 : ¬ 0 < z c := fun h => hb ((k2 c hc).mpr h)
        have h2 := nn c hc
        rw [ray_off hb]
        exact ⟨fun _ => rfl, fun _ => by omega⟩
    have rV : VV x2 n (ryv (Eof a b e) S R) := ⟨fun c h1 h2 => (ex c h2).mp (z2.1 c h1 h2), fun h => (ex 1 (by decide)).mp (z2.2.1 h), fun h => ⟨(ex 0 (by decide)).mp (z2.2.2 h).1, (ex 1 (by decide)).mp (z2.2.2 h).2⟩⟩
    obtain ⟨c0, hc0, hne⟩ := z1.2.2.2.1
    have hb0 : bt S c0 := (k2 c0 hc0).mpr (by have := nn c0 hc0; omega)
    have rc0 := ray_pos k1.2.2.2.2.1 hc0 hb0
    have hz0 := (k2 c0 hc0).mp hb0
    have par' : ∀ c c', c < 6 → c' < 6 → ryv (Eof a b e) S R c * z c' = ryv (Eof a b e) S R c' * z c := fun c c' hc hc' => by
      have := k3 c' c hc' hc
      rw [Int.mul_comm, this, Int.mul_comm]
    have rD : 0 < DD x2 n (ryv (Eof a b e) S R) := by
      have e1 := DD_par (x2 := x2) hn par' hc0
      rw [z4] at e1
      have : 0 < DD x2 n (ryv (Eof a b e) S R) * z c0 := by rw [← e1]; exact Int.mul_pos rc0 hd
      exact Int.not_le.mp (fun hle => by
        have := Int.mul_nonneg (show 0 ≤ - DD x2 n (ryv (Eof a b e) S R) by omega) (Int.le_of_lt hz0)
        rw [Int.neg_mul] at this
        omega)
    have hcol : ∀ c, c < 6 → ryv (Eof a b e) S R c * d = DD x2 n (ryv (Eof a b e) S R) * z c := fun c hc => by
      have := DD_par (x2 := x2) hn par' hc
      rw [z4] at this
      exact this
    refine ⟨v, d, q4, hd, vb.1, fun j hj => ⟨?_, vb.2 j hj⟩, fun h2 => ?_, S, R, k1, rV, rD, fun j hj => ?_⟩
    · rw [← z3 j hj]
      unfold XX
      split
      · exact nn _ (by omega)
      · exact nn _ (by decide)
    · subst h2
      have hw : w = n + 1 := by rcases x2c hx with ⟨h, -⟩ | ⟨h, -⟩ | ⟨-, h⟩ <;> first | exact h | exact absurd h (by decide)
      have e1 := z3 n (by omega)
      unfold XX at e1
      rw [if_neg (by omega)] at e1
      have e2 : DD 2 n z = z 0 + z 1 := rfl
      have := nn 0 (by decide)
      omega
    · rw [← z3 j hj]
      unfold XX
      split
      · rw [hcol _ (by omega), Int.mul_comm]
      · rw [hcol _ (by decide), Int.mul_comm]
  · obtain ⟨p, p1, p2, p3, p4, p5⟩ := mb_compl hn hm hmk hMB hc hV hD
    obtain ⟨g, g1, v', d', g2, g3, g4⟩ := c7.2 p p1 p2 p3 _ _ hD p4 p5
    exact ⟨g, g1, v', d', g2, g3, g4⟩
