/-! THE QUESTIONS: the class answers as the reference does -/
section Qu
variable {M M' : Mm} {n m mask cn : Nat} {a : Nat → Nat → Int} {b e cc : Nat → Int} {sn : Nat → Int32}
/-- one call asked of both: the same outcome, the same answer -/
def ANS {Y : Type} (φ : Y → Int64) (q : Option (Int32 × Mm)) (g : Mm → Option (Y × Mm)) (n m : Nat) (a : Nat → Nat → Int) (b e cc : Nat → Int) (sn : Nat → Int32) : Prop :=
  ∃ k M1 y M2, q = some (k, M1) ∧ g M1 = some (y, M2) ∧ M2.1 6 = k ∧ (k = 0 → M2.2.2 5 0 = φ y) ∧ INV M2 n m a b e cc sn
theorem k5 {r : Int64} (hF : FM (sL M 5 0 r) M') : M'.2.2 5 0 = r := by
  rw [hF.2.2 5 (by decide)]
  exact outAt
theorem ANS.ref {Y : Type} {φ : Y → Int64} {q : Option (Int32 × Mm)} {g : Mm → Option (Y × Mm)} {k : Int32} {M1 M2 : Mm} {y : Y} (hk : k ≠ 0) (hq : q = some (k, M1)) (hg : g M1 = some (y, wI M2 6 k)) (hI : INV M2 n m a b e cc sn) : ANS φ q g n m a b e cc sn :=
  ⟨k, M1, y, wI M2 6 k, hq, hg, w6 M2 k, fun h => absurd h hk, hI.fm w6fm⟩
theorem ANS.good {Y : Type} {φ : Y → Int64} {q : Option (Int32 × Mm)} {g : Mm → Option (Y × Mm)} {M1 M3 : Mm} {r : Int64} {y : Y} (hq : q = some (0, sL M1 5 0 r)) (hg : g (sL M1 5 0 r) = some (y, M3)) (hy : r = φ y) (h6 : M3.1 6 = 0) (hF : FM (sL M1 5 0 r) M3) (hI : INV M3 n m a b e cc sn) : ANS φ q g n m a b e cc sn :=
  ⟨0, _, y, M3, hq, hg, h6, fun _ => (k5 hF).trans hy, hI⟩
theorem RYP (h : RY M' = RY M) : isP M' = isP M := by funext g; unfold isP; rw [h]
theorem RYW (h : RY M' = RY M) : WR cc n M' = WR cc n M := by funext g; unfold WR; rw [h]
theorem RYB (h : RY M' = RY M) : ltB cc n M' = ltB cc n M := by funext g k; unfold ltB kB dB; rw [RYW h, h]
theorem RYF {x3 : Int32} {c : Nat} (h : RY M' = RY M) : ltF M' x3 c = ltF M x3 c := by funext g k; unfold ltF kF dB; rw [h]
theorem trs {r : Int64} (hZ : PZ n m a b e cc) (hC : CON M n m mask (Eof a b e) sn cn) (hF : FM (sL M 5 0 r) M') : CON M' n m mask (Eof a b e) sn cn ∧ RF M' n cn ∧ RY M' = RY M := by
  have h1 := (hC.out (r := r)).fm hF
  exact ⟨h1, rf_of hZ h1.2.2.2, RYe (fun κ hκ => (hF.2.2 κ (by omega)).trans (sL_ne (by omega)))⟩
theorem m_coll6 {N : Nat} (hN : 600 ≤ N) (h : INV M n m a b e cc sn) (hmk : mask < 2 ^ m) {x2 : Int32} {w : Nat} (hx : (x2 = 2 ∧ w = n + 1) ∨ ((x2 = 0 ∨ x2 = 1) ∧ w = n)) (hc : f_X3_collect N (nI mask) x2 M = some M') : M'.1 6 = M.1 6 := by
  obtain ⟨M'', f, a1, a2, -⟩ := mcol (N := N) hN h.1 hmk hx h.2.2.2
  rw [hc] at a1
  rw [Option.some.inj a1]
  exact a2.1 6 (by decide) (by decide) (by decide)
theorem StS.fe (h : StS n m a b e cc sn 0) : FeasS n m a b e sn (2 ^ m - 1) := by
  rcases h with ⟨q, _⟩ | ⟨q, _, _⟩ | ⟨_, q, _⟩
  · exact absurd q (by decide)
  · exact absurd q (by decide)
  · exact q
/-- the class's best ray, and the reference's best point, at the memories where they are asked -/
theorem best2 {N : Nat} (hN : 600 ≤ N) (hZ : PZ n m a b e cc) {M1 : Mm} (s5 : CON M1 n m (2 ^ m - 1) (Eof a b e) sn cn) (hf : FeasS n m a b e sn (2 ^ m - 1)) {g0 : Nat} (b2 : g0 < cn) (b3 : isP M1 g0) (b4 : ∀ g, g < cn → isP M1 g → ¬ ltB cc n M1 g g0) (r : Int64) (M2 : Mm) (hF : FM (sL M1 5 0 r) M2) (hI : INV M2 n m a b e cc sn) :
    ∃ M3 f t, f_X3_collect N (nI (2 ^ m - 1)) 0 M2 = some M3 ∧ FM M2 M3 ∧ INV M3 n m a b e cc sn ∧ M3.1 6 = M2.1 6 ∧ MLS M3 0 n m (2 ^ m - 1) a b e cc sn n f ∧ MX M3 n n f cc 4374 802400 ∧ f_X3_best N M3 = some (nI t, M3) ∧ t < f ∧ WR cc n M1 g0 * MB M3 t = MW M3 t * RY M1 g0 0 ∧ ∀ j, j < n → RY M1 g0 (2 + j) * MB M3 t = MA M3 t j * RY M1 g0 0 := by
  obtain ⟨M3, f, u1, u2, u3, u4, u5⟩ := m_coll hN hI (all_lt m) (x2 := 0) (w := n) (Or.inr ⟨Or.inl rfl, rfl⟩)
  obtain ⟨t, v1, v2, v3⟩ := mbest (N := N) (by omega) u5 ((fs_m u4).mpr hf)
  obtain ⟨k1, k2, k3⟩ := trs hZ s5 (hF.tr u2)
  obtain ⟨e1, e2⟩ := c_best hZ k2 k1.2.2.2 u4 u5 (g0 := g0) b2 (by rw [RYP k3]; exact b3) (by rw [RYP k3, RYB k3]; exact b4) v2 v3
  rw [RYW k3, k3] at e1
  rw [k3] at e2
  exact ⟨M3, f, t, u1, u2, u3, m_coll6 hN hI (all_lt m) (Or.inr ⟨Or.inl rfl, rfl⟩) u1, u4, u5, v1, v2, e1, e2⟩
theorem bests {N : Nat} (hN : 600 ≤ N) (hZ : PZ n m a b e cc) {M1 : Mm} (s5 : CON M1 n m (2 ^ m - 1) (Eof a b e) sn cn) (s6 : CX M1 n cn cc) (hf : FeasS n m a b e sn (2 ^ m - 1)) : ∃ g0, f_X2_bestRay N M1 = some (12 + g0, M1) ∧ g0 < cn ∧ isP M1 g0 ∧ ∀ (r : Int64) (M2 : Mm), FM (sL M1 5 0 r) M2 → INV M2 n m a b e cc sn →
    ∃ M3 f t, f_X3_collect N (nI (2 ^ m - 1)) 0 M2 = some M3 ∧ FM M2 M3 ∧ INV M3 n m a b e cc sn ∧ M3.1 6 = M2.1 6 ∧ MLS M3 0 n m (2 ^ m - 1) a b e cc sn n f ∧ MX M3 n n f cc 4374 802400 ∧ f_X3_best N M3 = some (nI t, M3) ∧ t < f ∧ WR cc n M1 g0 * MB M3 t = MW M3 t * RY M1 g0 0 ∧ ∀ j, j < n → RY M1 g0 (2 + j) * MB M3 t = MA M3 t j * RY M1 g0 0 := by
  obtain ⟨g0, b1, b2, b3, b4⟩ := best_s (N := N) (by omega) s6 ((fs_c s5.2.2.2).mpr hf)
  exact ⟨g0, b1, b2, b3, fun r M2 hF hI => best2 hN hZ s5 hf b2 b3 b4 r M2 hF hI⟩
theorem t_value {N : Nat} (hN : 600 ≤ N) (h : INV M n m a b e cc sn) (x : Int32) : ANS (fun y => y) (f_L_value N x M) (f_X3_value N x) n m a b e cc sn := by
  obtain ⟨st, M1, cn, s1, s2, s3, s4, s5, s6⟩ := c_solve hN h
  by_cases h0 : st = 0
  · subst h0
    have hf := s2.fe
    by_cases hw : isW x
    · obtain ⟨g0, b1, b2, b3, b4⟩ := bests hN h.1 s5 s6 hf
      obtain ⟨y, y1, y2⟩ := wth_r (N := N) (by omega) s6 b2
      have c126 := s6.2.2.2.1
      have r0 := s6.s b2
      have wb := WR_b s6 b2
      have c1 : f_X2_value N x M = some (.inr (Int64.ofInt (fr (WR cc n M1 g0) (RY M1 g0 0) x)), M1) := by
        unfold f_X2_value b_X2_value_0
        rw [s1, Option.bind_some]
        dsimp only
        rw [if_pos rfl, isPr, Option.bind_some]
        dsimp only
        rw [if_pos hw, if_neg (by decide), b1, Option.bind_some]
        dsimp only
        rw [y1, Option.bind_some]
        dsimp only
        rw [rR0 (by omega), Option.bind_some, prt (by omega) (by rw [y2]; omega) b3.1 (by have := r0.2.1; unfold RY at this; omega) x M1, Option.bind_some, y2]
        rfl
      generalize hR : Int64.ofInt (fr (WR cc n M1 g0) (RY M1 g0 0) x) = R at c1
      obtain ⟨st', M2, t1, t2, t3, t4⟩ := m_status hN (s4.out (r := R))
      have h0' : st' = 0 := t2.un s2
      subst h0'
      obtain ⟨M3, f, t, u1, u2, u3, u6, u4, u5, v1, v2, e1, -⟩ := b4 R (wI M2 6 0) (t3.tr w6fm) (t4.fm w6fm)
      have f126 := u5.2.2.2.2.2.1
      have hB := u5.2.2.2.2.2.2.2 t v2
      have hW := u5.Wb v2
      refine ANS.good (r := R) (y := R) (M1 := M1) (M3 := M3) ?_ ?_ rfl (u6.trans (w6 M2 0)) ((t3.tr w6fm).tr u2) u3
      · unfold f_L_value
        rw [c1, Option.bind_some]
        dsimp only
        rw [wOut, Option.bind_some]
      · unfold f_X3_value b_X3_value_0
        rw [t1, Option.bind_some]
        dsimp only
        rw [if_pos rfl]
        unfold b_X3_value_13
        rw [outW, Option.bind_some]
        dsimp only
        rw [if_pos hw, ref0, Option.bind_some]
        dsimp only
        rw [if_pos rfl, evry (t4.fm w6fm), Option.bind_some]
        dsimp only
        rw [u1, Option.bind_some, v1, Option.bind_some]
        dsimp only
        rw [rM4 (by omega), Option.bind_some, rM3 (by omega), Option.bind_some, tld (by omega) (by unfold MW at hW; omega) hB.1 (by have := hB.2.1; unfold MB at this; omega) x M3, Option.bind_some]
        dsimp only
        rw [← hR, fr_eq b3.1 hB.1 e1 x]
        rfl
    · obtain ⟨st', M2, t1, t2, t3, t4⟩ := m_status hN s4
      have h0' : st' = 0 := t2.un s2
      subst h0'
      refine ANS.ref (k := 2) (M1 := M1) (M2 := M2) (y := 0) (by decide) ?_ ?_ t4
      · unfold f_L_value f_X2_value b_X2_value_0
        rw [s1, Option.bind_some]
        dsimp only
        rw [if_pos rfl, isPr, Option.bind_some]
        dsimp only
        rw [if_neg hw, if_pos rfl, Option.bind_some]
        dsimp only
        rw [if_neg (by decide), if_pos rfl]
      · unfold f_X3_value b_X3_value_0
        rw [t1, Option.bind_some]
        dsimp only
        rw [if_pos rfl]
        unfold b_X3_value_13
        rw [outW, Option.bind_some]
        dsimp only
        rw [if_neg hw, ref2, Option.bind_some]
        dsimp only
        rw [if_neg (by decide)]
  · obtain ⟨st', M2, t1, t2, t3, t4⟩ := m_status hN s4
    have h0' : st' = st := t2.un s2
    subst h0'
    refine ANS.ref (k := 1) (M1 := M1) (M2 := M2) (y := 0) (by decide) ?_ ?_ t4
    · unfold f_L_value f_X2_value b_X2_value_0
      rw [s1, Option.bind_some]
      dsimp only
      rw [if_neg h0, Option.bind_some]
      dsimp only
      rw [if_pos rfl]
    · unfold f_X3_value b_X3_value_0
      rw [t1, Option.bind_some]
      dsimp only
      rw [if_neg h0]
      unfold b_X3_value_13
      rw [outW, Option.bind_some]
      dsimp only
      rw [ref1, Option.bind_some]
      dsimp only
      rw [if_neg (by decide)]
theorem t_point {N : Nat} (hN : 600 ≤ N) (h : INV M n m a b e cc sn) (x z : Int32) : ANS (fun y => y) (f_L_point N x z M) (f_X3_point N x z) n m a b e cc sn := by
  obtain ⟨st, M1, cn, s1, s2, s3, s4, s5, s6⟩ := c_solve hN h
  have hn4 := h.1.2.1
  by_cases h0 : st = 0
  · subst h0
    have hf := s2.fe
    by_cases hj : inR x n
    · by_cases hw : isW z
      · obtain ⟨g0, b1, b2, b3, b4⟩ := bests hN h.1 s5 s6 hf
        have c126 := s6.2.2.2.1
        have r0 := s6.s b2
        obtain ⟨j, j1, j2⟩ := inR_nI hj (by omega)
        have rj := s6.r b2 (c := 2 + j) (by omega)
        have c1 : f_X2_point N x z M = some (.inr (Int64.ofInt (fr (RY M1 g0 (2 + j)) (RY M1 g0 0) z)), M1) := by
          unfold f_X2_point b_X2_point_0
          rw [s1, Option.bind_some]
          dsimp only
          rw [if_pos rfl, hasV s4.2.1 hn4, Option.bind_some]
          dsimp only
          rw [if_pos hj, if_neg (by decide), isPr, Option.bind_some]
          dsimp only
          rw [if_pos hw, if_neg (by decide), b1, Option.bind_some]
          dsimp only
          rw [j2, ix2, rR (by omega) (by omega), Option.bind_some, rR0 (by omega), Option.bind_some, prt (by omega) (by omega) b3.1 (by have := r0.2.1; unfold RY at this; omega) z M1, Option.bind_some]
          rfl
        generalize hR : Int64.ofInt (fr (RY M1 g0 (2 + j)) (RY M1 g0 0) z) = R at c1
        obtain ⟨st', M2, t1, t2, t3, t4⟩ := m_status hN (s4.out (r := R))
        have h0' : st' = 0 := t2.un s2
        subst h0'
        obtain ⟨M3, f, t, u1, u2, u3, u6, u4, u5, v1, v2, -, e1⟩ := b4 R (wI M2 6 0) (t3.tr w6fm) (t4.fm w6fm)
        have f126 := u5.2.2.2.2.2.1
        have hB := u5.2.2.2.2.2.2.2 t v2
        have hA := u5.A v2 j1
        refine ANS.good (r := R) (y := R) (M1 := M1) (M3 := M3) ?_ ?_ rfl (u6.trans (w6 M2 0)) ((t3.tr w6fm).tr u2) u3
        · unfold f_L_point
          rw [c1, Option.bind_some]
          dsimp only
          rw [wOut, Option.bind_some]
        · unfold f_X3_point b_X3_point_0
          rw [t1, Option.bind_some]
          dsimp only
          rw [if_pos rfl]
          unfold b_X3_point_13
          rw [t4.2.2.2.1, outR (by omega), Option.bind_some]
          dsimp only
          rw [outW, Option.bind_some]
          dsimp only
          rw [if_pos hj, if_pos hw, ref0, Option.bind_some]
          dsimp only
          rw [if_pos rfl, evry (t4.fm w6fm), Option.bind_some]
          dsimp only
          rw [u1, Option.bind_some, v1, Option.bind_some]
          dsimp only
          rw [j2, ix5, rM2 (by omega) (by omega), Option.bind_some, rM3 (by omega), Option.bind_some, tld (by omega) (by unfold MA at hA; omega) hB.1 (by have := hB.2.1; unfold MB at this; omega) z M3, Option.bind_some]
          dsimp only
          rw [← hR, fr_eq b3.1 hB.1 (e1 j j1) z]
          rfl
      · obtain ⟨st', M2, t1, t2, t3, t4⟩ := m_status hN s4
        have h0' : st' = 0 := t2.un s2
        subst h0'
        refine ANS.ref (k := 3) (M1 := M1) (M2 := M2) (y := 0) (by decide) ?_ ?_ t4
        · unfold f_L_point f_X2_point b_X2_point_0
          rw [s1, Option.bind_some]
          dsimp only
          rw [if_pos rfl, hasV s4.2.1 hn4, Option.bind_some]
          dsimp only
          rw [if_pos hj, if_neg (by decide), isPr, Option.bind_some]
          dsimp only
          rw [if_neg hw, if_pos rfl, Option.bind_some]
          dsimp only
          rw [if_neg (by decide), if_neg (by decide), if_pos rfl]
        · unfold f_X3_point b_X3_point_0
          rw [t1, Option.bind_some]
          dsimp only
          rw [if_pos rfl]
          unfold b_X3_point_13
          rw [t4.2.2.2.1, outR (by omega), Option.bind_some]
          dsimp only
          rw [outW, Option.bind_some]
          dsimp only
          rw [if_pos hj, if_neg hw, ref3, Option.bind_some]
          dsimp only
          rw [if_neg (by decide)]
    · obtain ⟨st', M2, t1, t2, t3, t4⟩ := m_status hN s4
      have h0' : st' = 0 := t2.un s2
      subst h0'
      refine ANS.ref (k := 2) (M1 := M1) (M2 := M2) (y := 0) (by decide) ?_ ?_ t4
      · unfold f_L_point f_X2_point b_X2_point_0
        rw [s1, Option.bind_some]
        dsimp only
        rw [if_pos rfl, hasV s4.2.1 hn4, Option.bind_some]
        dsimp only
        rw [if_neg hj, if_pos rfl, Option.bind_some]
        dsimp only
        rw [if_neg (by decide), if_pos rfl]
      · unfold f_X3_point b_X3_point_0
        rw [t1, Option.bind_some]
        dsimp only
        rw [if_pos rfl]
        unfold b_X3_point_13
        rw [t4.2.2.2.1, outR (by omega), Option.bind_some]
        dsimp only
        rw [outW, Option.bind_some]
        dsimp only
        rw [if_neg hj, ref2, Option.bind_some]
        dsimp only
        rw [if_neg (by decide)]
  · obtain ⟨st', M2, t1, t2, t3, t4⟩ := m_status hN s4
    have h0' : st' = st := t2.un s2
    subst h0'
    refine ANS.ref (k := 1) (M1 := M1) (M2 := M2) (y := 0) (by decide) ?_ ?_ t4
    · unfold f_L_point f_X2_point b_X2_point_0
      rw [s1, Option.bind_some]
      dsimp only
      rw [if_neg h0, Option.bind_some]
      dsimp only
      rw [if_pos rfl]
    · unfold f_X3_point b_X3_point_0
      rw [t1, Option.bind_some]
      dsimp only
      rw [if_neg h0]
      unfold b_X3_point_13
      rw [t4.2.2.2.1, outR (by omega), Option.bind_some]
      dsimp only
      rw [outW, Option.bind_some]
      dsimp only
      rw [ref1, Option.bind_some]
      dsimp only
      rw [if_neg (by decide)]
end Qu
