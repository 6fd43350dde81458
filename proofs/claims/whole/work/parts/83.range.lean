section Qr
variable {M M' : Mm} {n m mask cn : Nat} {a : Nat → Nat → Int} {b e cc : Nat → Int} {sn : Nat → Int32}
theorem StS.one {st : Int32} (h : StS n m a b e cc sn st) : st = 1 ↔ ¬ FeasS n m a b e sn (2 ^ m - 1) := by
  rcases h with ⟨h1, h2⟩ | ⟨h1, h2, _⟩ | ⟨h1, h2, _⟩
  · exact ⟨fun _ => h2, fun _ => h1⟩
  · rw [h1]; exact ⟨fun q => absurd q (by decide), fun q => absurd h2 q⟩
  · rw [h1]; exact ⟨fun q => absurd q (by decide), fun q => absurd h2 q⟩
theorem m_range_head {N : Nat} (hN : 600 ≤ N) (h : INV M n m a b e cc sn) (x1 x2 x3 : Int32) : ∃ s0 r5 M', f_X3_range N x1 x2 x3 M = b_X3_range_65 N x1 x2 x3 s0 (if isW x3 then 0 else 1) (if inR x1 n then 0 else 1) r5 M' ∧ FM M M' ∧ INV M' n m a b e cc sn ∧ (r5 = 0 ∨ r5 = 1) ∧ (r5 = 1 ↔ ¬ FeasS n m a b e sn (2 ^ m - 1)) ∧ (s0 = 0 ∨ s0 = 1) ∧ (s0 = 1 ↔ x2 ≠ 0 ∧ ∃ j, j < n ∧ x1 = nI j ∧ GrowS n m a b e sn j) := by
  obtain ⟨r5, M5, a1, a2, a3, a4, a5⟩ := m_inf hN h (all_lt m)
  have hn4 := h.1.2.1
  have z1 : ¬ (0 : Int32) = 1 := by decide
  unfold f_X3_range b_X3_range_0
  rw [evry h, Option.bind_some]
  dsimp only
  rw [a1, Option.bind_some]
  dsimp only
  rw [a5.2.2.2.1, outR (by omega), Option.bind_some]
  dsimp only
  rw [outW, Option.bind_some]
  dsimp only
  by_cases hj : inR x1 n
  · rw [if_pos hj, if_pos rfl]
    by_cases hx : x2 = 0
    · rw [if_pos hx]
      exact ⟨0, r5, M5, rfl, a4, a5, a2, a3, Or.inl rfl, ⟨fun q => absurd q z1, fun q => absurd hx q.1⟩⟩
    · rw [if_neg hx, if_pos rfl]
      obtain ⟨j, j1, j2⟩ := inR_nI hj (by omega)
      obtain ⟨r, M6, c1, c2, c3, c4, c5⟩ := m_endl hN j1 a5
      unfold b_X3_range_54
      rw [j2, c1, Option.bind_some]
      dsimp only
      have key : GrowS n m a b e sn j ↔ x2 ≠ 0 ∧ ∃ i, i < n ∧ nI j = nI i ∧ GrowS n m a b e sn i := by
        constructor
        · intro q
          exact ⟨hx, j, j1, rfl, q⟩
        · intro ⟨_, i, i1, i2, i3⟩
          rw [(nI_eq (by omega) (by omega)).mp i2]
          exact i3
      rcases c2 with rfl | rfl
      · rw [if_pos rfl]
        exact ⟨0, r5, M6, rfl, a4.tr c4, c5, a2, a3, Or.inl rfl, c3.trans key⟩
      · rw [if_neg (by decide)]
        exact ⟨1, r5, M6, rfl, a4.tr c4, c5, a2, a3, Or.inr rfl, c3.trans key⟩
  · rw [if_neg hj, if_neg (by decide)]
    exact ⟨0, r5, M5, rfl, a4, a5, a2, a3, Or.inl rfl, ⟨fun q => absurd q z1, fun ⟨_, j, j1, j2, _⟩ => absurd (show inR x1 n by rw [j2]; exact ⟨by rw [nI_toInt (by omega)]; omega, by rw [nI_toInt (by omega)]; omega⟩) hj⟩⟩
theorem rng67 {N j : Nat} (hN : 600 ≤ N) {M1 : Mm} (hj : j < n) (x2 x3 : Int32) (s6 : CX M1 n cn cc) (hx : ∃ g, g < cn ∧ isP M1 g) : ∃ g0, b_X2_range_67 N (nI j) x2 x3 M1 = some (.inr (Int64.ofInt (fr (RY M1 g0 (2 + j)) (RY M1 g0 0) x3)), M1) ∧ g0 < cn ∧ isP M1 g0 ∧ ∀ g, g < cn → isP M1 g → ¬ ltF M1 x2 (2 + j) g g0 := by
  obtain ⟨g0, b1, b2, b3, b4⟩ := extr_s (N := N) (by omega) s6 hj x2 hx
  have c126 := s6.2.2.2.1
  have hn4 := s6.1
  have r0 := s6.s b2
  have rj := s6.r b2 (c := 2 + j) (by omega)
  refine ⟨g0, ?_, b2, b3, b4⟩
  unfold b_X2_range_67
  rw [b1, Option.bind_some]
  dsimp only
  rw [ix2, rR (by omega) (by omega), Option.bind_some, rR0 (by omega), Option.bind_some, prt (by omega) (by omega) b3.1 (by have := r0.2.1; unfold RY at this; omega) x3 M1, Option.bind_some]
  rfl
theorem t_range {N : Nat} (hN : 600 ≤ N) (h : INV M n m a b e cc sn) (x1 x2 x3 : Int32) : ANS (fun y => y) (f_L_range N x1 x2 x3 M) (f_X3_range N x1 x2 x3) n m a b e cc sn := by
  obtain ⟨st, M1, cn, s1, s2, s3, s4, s5, s6⟩ := c_solve hN h
  have hn4 := h.1.2.1
  have z1 : ¬ (0 : Int32) = 1 := by decide
  by_cases hf : FeasS n m a b e sn (2 ^ m - 1)
  · have h1 : ¬ st = 1 := fun q => (s2.one.mp q) hf
    by_cases hj : inR x1 n
    · obtain ⟨j, j1, j2⟩ := inR_nI hj (by omega)
      by_cases hw : isW x3
      · have hx := (fs_c s5.2.2.2).mpr hf
        obtain ⟨q, q1, q2, q3⟩ := grow_s (N := N) (by omega) j1 s6
        have q4 := q3.trans (gs_c hn4 j1 s5.2.2.2)
        by_cases hg : x2 ≠ 0 ∧ GrowS n m a b e sn j
        · -- endless
          have q5 : q = 1 := q4.mpr hg.2
          subst q5
          obtain ⟨t0, r5, M2, t1, t2, t3, t4, t5, t6, t7⟩ := m_range_head hN s4 x1 x2 x3
          have e5 : r5 = 0 := t4.resolve_right (fun q => (t5.mp q) hf)
          have e0 : t0 = 1 := t7.mpr ⟨hg.1, j, j1, j2, hg.2⟩
          subst e5 e0
          refine ANS.ref (k := 4) (M1 := M1) (M2 := M2) (y := 0) (by decide) ?_ ?_ t3
          · unfold f_L_range f_X2_range b_X2_range_0
            rw [s1, Option.bind_some]
            dsimp only
            rw [if_neg h1, hasV s4.2.1 hn4, Option.bind_some]
            dsimp only
            rw [if_pos hj, if_neg (by decide), isPr, Option.bind_some]
            dsimp only
            rw [if_pos hw, if_neg (by decide), if_neg hg.1, j2, q1, Option.bind_some]
            dsimp only
            rw [if_neg (by decide), Option.bind_some]
            dsimp only
            rw [if_neg (by decide), if_neg (by decide), if_neg (by decide), if_pos rfl]
          · rw [t1]
            unfold b_X3_range_65
            rw [if_pos hw, if_pos hj, ref4, Option.bind_some]
            dsimp only
            rw [if_neg (by decide)]
        · obtain ⟨g0, b1, b2, b3, b4⟩ := rng67 (N := N) hN j1 x2 x3 s6 hx
          have c1 : f_X2_range N x1 x2 x3 M = some (.inr (Int64.ofInt (fr (RY M1 g0 (2 + j)) (RY M1 g0 0) x3)), M1) := by
            unfold f_X2_range b_X2_range_0
            rw [s1, Option.bind_some]
            dsimp only
            rw [if_neg h1, hasV s4.2.1 hn4, Option.bind_some]
            dsimp only
            rw [if_pos hj, if_neg (by decide), isPr, Option.bind_some]
            dsimp only
            rw [if_pos hw, if_neg (by decide)]
            by_cases hx2 : x2 = 0
            · rw [if_pos hx2, j2]
              exact b1
            · have q5 : q = 0 := q2.resolve_right (fun q => hg ⟨hx2, q4.mp q⟩)
              subst q5
              rw [if_neg hx2, j2, q1, Option.bind_some]
              dsimp only
              rw [if_pos rfl]
              exact b1
          generalize hR : Int64.ofInt (fr (RY M1 g0 (2 + j)) (RY M1 g0 0) x3) = R at c1
          obtain ⟨t0, r5, M2, t1, t2, t3, t4, t5, t6, t7⟩ := m_range_head hN (s4.out (r := R)) x1 x2 x3
          have e5 : r5 = 0 := t4.resolve_right (fun q => (t5.mp q) hf)
          have e0 : t0 = 0 := t6.resolve_right (fun q => by
            obtain ⟨w1, i, i1, i2, i3⟩ := t7.mp q
            rw [j2] at i2
            rw [← (nI_eq (by omega) (by omega)).mp i2] at i3
            exact hg ⟨w1, i3⟩)
          subst e5 e0
          have hI2 : INV (wI M2 6 0) n m a b e cc sn := t3.fm w6fm
          obtain ⟨M3, f, u1, u2, u3, u4, u5⟩ := m_coll hN hI2 (all_lt m) (x2 := 0) (w := n) (Or.inr ⟨Or.inl rfl, rfl⟩)
          have u5 : MX M3 n n f cc 4374 802400 := u5
          have f0 := (fs_m u4).mpr hf
          have f126 := u5.2.2.2.2.2.1
          obtain ⟨t, v1, v2, v3⟩ := mrange_loop (N := N) u5 j1 x2 x3 (f - 1) 1 0 N (by omega) (by omega) f0 (AM.one (fun g => lx_ir 1 0))
          have v4 := (v3.fin ⟨0, f0, f0⟩).2
          obtain ⟨k1, k2, k3⟩ := trs h.1 s5 ((t2.tr w6fm).tr u2)
          have e1 := c_far h.1 k2 k1.2.2.2 u4 u5 j1 x2 (g0 := g0) b2 (by rw [RYP k3]; exact b3) (by rw [RYP k3, RYF k3]; exact b4) v2 (fun k hk => v4 k hk hk)
          rw [k3] at e1
          have hB := u5.2.2.2.2.2.2.2 t v2
          have hA := u5.A v2 j1
          refine ANS.good (r := R) (y := R) (M1 := M1) (M3 := M3) ?_ ?_ rfl ((m_coll6 hN hI2 (all_lt m) (Or.inr ⟨Or.inl rfl, rfl⟩) u1).trans (w6 M2 0)) ((t2.tr w6fm).tr u2) u3
          · unfold f_L_range
            rw [c1, Option.bind_some]
            dsimp only
            rw [wOut, Option.bind_some]
          · rw [t1]
            unfold b_X3_range_65
            rw [if_pos hw, if_pos hj, ref0, Option.bind_some]
            dsimp only
            rw [if_pos rfl, evry hI2, Option.bind_some]
            dsimp only
            rw [u1, Option.bind_some, j2]
            refine Eq.trans v1 ?_
            rw [tld (by omega) (by unfold MA at hA; omega) hB.1 (by have := hB.2.1; unfold MB at this; omega) x3 M3, Option.bind_some]
            dsimp only
            rw [← hR, fr_eq b3.1 hB.1 e1 x3]
            rfl
      · obtain ⟨t0, r5, M2, t1, t2, t3, t4, t5, t6, t7⟩ := m_range_head hN s4 x1 x2 x3
        have e5 : r5 = 0 := t4.resolve_right (fun q => (t5.mp q) hf)
        subst e5
        refine ANS.ref (k := 3) (M1 := M1) (M2 := M2) (y := 0) (by decide) ?_ ?_ t3
        · unfold f_L_range f_X2_range b_X2_range_0
          rw [s1, Option.bind_some]
          dsimp only
          rw [if_neg h1, hasV s4.2.1 hn4, Option.bind_some]
          dsimp only
          rw [if_pos hj, if_neg (by decide), isPr, Option.bind_some]
          dsimp only
          rw [if_neg hw, if_pos rfl, Option.bind_some]
          dsimp only
          rw [if_neg (by decide), if_neg (by decide), if_pos rfl]
        · rw [t1]
          unfold b_X3_range_65
          rw [if_neg hw, if_pos hj, ref3, Option.bind_some]
          dsimp only
          rw [if_neg (by decide)]
    · obtain ⟨t0, r5, M2, t1, t2, t3, t4, t5, t6, t7⟩ := m_range_head hN s4 x1 x2 x3
      have e5 : r5 = 0 := t4.resolve_right (fun q => (t5.mp q) hf)
      subst e5
      refine ANS.ref (k := 2) (M1 := M1) (M2 := M2) (y := 0) (by decide) ?_ ?_ t3
      · unfold f_L_range f_X2_range b_X2_range_0
        rw [s1, Option.bind_some]
        dsimp only
        rw [if_neg h1, hasV s4.2.1 hn4, Option.bind_some]
        dsimp only
        rw [if_neg hj, if_pos rfl, Option.bind_some]
        dsimp only
        rw [if_neg (by decide), if_pos rfl]
      · rw [t1]
        unfold b_X3_range_65
        rw [if_neg hj, ref2, Option.bind_some]
        dsimp only
        rw [if_neg (by decide)]
  · have h1 : st = 1 := s2.one.mpr hf
    subst h1
    obtain ⟨t0, r5, M2, t1, t2, t3, t4, t5, t6, t7⟩ := m_range_head hN s4 x1 x2 x3
    have e5 : r5 = 1 := t5.mpr hf
    subst e5
    refine ANS.ref (k := 1) (M1 := M1) (M2 := M2) (y := 0) (by decide) ?_ ?_ t3
    · unfold f_L_range f_X2_range b_X2_range_0
      rw [s1, Option.bind_some]
      dsimp only
      rw [if_pos rfl, Option.bind_some]
      dsimp only
      rw [if_pos rfl]
    · rw [t1]
      unfold b_X3_range_65
      rw [ref1, Option.bind_some]
      dsimp only
      rw [if_neg (by decide)]
theorem t_tight {N : Nat} (hN : 600 ≤ N) (h : INV M n m a b e cc sn) (x : Int32) : ANS (fun y : Int32 => if y = 0 then 0 else 1) (f_L_tight N x M) (f_X3_tight N x) n m a b e cc sn := by
  obtain ⟨st, M1, cn, s1, s2, s3, s4, s5, s6⟩ := c_solve hN h
  have hm3 := h.1.2.2.1
  by_cases h0 : st = 0
  · subst h0
    have hf := s2.fe
    by_cases hi : inR x m
    · obtain ⟨i, i1, i2⟩ := inR_nI hi (by omega)
      have hE := s4.2.1.2.2.1 i (by omega)
      obtain ⟨g0, r, q1, q2, b2, b3, b4, q3⟩ := shrp_s (N := N) (i := i) (by omega) (by omega) s6 (fun c hc => by rw [hE c hc]; exact (Eof_b h.1 (by omega)).1 c hc) ((fs_c s5.2.2.2).mpr hf)
      have c1 : f_X2_tight N x M = some (.inr r, M1) := by
        unfold f_X2_tight b_X2_tight_0
        rw [s1, Option.bind_some]
        dsimp only
        rw [if_pos rfl, hasR s4.2.1 hm3, Option.bind_some]
        dsimp only
        rw [if_pos hi, if_neg (by decide), i2, q1, Option.bind_some]
        dsimp only
        rw [if_pos q2]
      have c2 : f_L_tight N x M = some (0, sL M1 5 0 (if r = 0 then 0 else 1)) := by
        unfold f_L_tight
        rw [c1, Option.bind_some]
        dsimp only
        by_cases hr : r = 0
        · rw [if_pos hr, if_pos hr, wOut, Option.bind_some]
        · rw [if_neg hr, if_neg hr, wOut, Option.bind_some]
      generalize hR : (if r = 0 then (0 : Int64) else 1) = R at c2
      obtain ⟨st', M2, t1, t2, t3, t4⟩ := m_status hN (s4.out (r := R))
      have h0' : st' = 0 := t2.un s2
      subst h0'
      obtain ⟨M3, f, t, u1, u2, u3, u6, u4, u5, v1, v2, e1, -⟩ := best2 hN h.1 s5 hf b2 b3 b4 R (wI M2 6 0) (t3.tr w6fm) (t4.fm w6fm)
      obtain ⟨M4, f4, w1, w2, w3, w4, w5⟩ := m_coll hN u3 (all_lt m) (x2 := 1) (w := n) (Or.inr ⟨Or.inr rfl, rfl⟩)
      have w6' := m_coll6 hN u3 (all_lt m) (x2 := 1) (w := n) (Or.inr ⟨Or.inr rfl, rfl⟩) w1
      have f126 := u5.2.2.2.2.2.1
      have f4126 := w5.2.2.2.2.2.1
      have ha : ∀ M', INV M' n m a b e cc sn → ∀ j, j < n → (M'.2.1 6 (4 * i + j)).toInt = a i j ∧ ab (a i j) ≤ 9 := fun M' hI j hj => ⟨hI.2.2.2.2.2.1 i (by omega) j (by have := h.1.2.1; omega), h.1.2.2.2.1 i (by omega) j (by have := h.1.2.1; omega)⟩
      obtain ⟨r0, x1, x2, x3⟩ := tight0_loop (N := N) (i := i) (b := b) (by omega) u5 (by omega) v2 (ha M3 u3) ⟨u3.2.2.2.2.2.2.1 i (by omega), h.1.2.2.2.2.1 i (by omega)⟩ f 0 N 1 (by omega) (by omega) (Or.inr rfl)
      obtain ⟨r', y1, y2, y3⟩ := tight1_loop (N := N) (i := i) (by omega) w5 (by decide) (by decide) (by omega) (ha M4 w3) f4 0 N r0 (by omega) (by omega) x2
      obtain ⟨k1, k2, k3⟩ := trs h.1 s5 ((t3.tr w6fm).tr u2)
      obtain ⟨l1, l2, l3⟩ := trs h.1 s5 (((t3.tr w6fm).tr u2).tr w2)
      have p0 := c_tight0 h.1 k2 k1.2.2.2 u4 u5 (i := i) (g0 := g0) (by rw [RYP k3]; exact b3) v2 (by rw [RYW k3, k3]; exact e1)
      have p1 := c_tight1 h.1 l2 l1.2.2.2 w4 w5 (i := i)
      rw [RYP k3, RYW k3, k3] at p0
      rw [show isD M4 = isD M1 by funext g; unfold isD; rw [l3], RYW l3, l3] at p1
      have key : r = 1 ↔ r' = 1 := by
        refine q3.trans (Iff.trans ?_ y3.symm)
        constructor
        · intro q
          refine ⟨x3.mpr ⟨rfl, fun k' _ hk' hw' => p0.mp (fun g hg hp he => ?_) k' hk' hw'⟩, fun k' _ hk' hw' => p1.mp (fun g hg hp he => ?_) k' hk' hw'⟩
          · rw [← exc_E hE]
            exact q g hg ⟨hp.2, he⟩
          · rw [← exc_E hE]
            exact q g hg ⟨hp.2, by rw [he, hp.1, Int.zero_mul, Int.mul_zero]⟩
        · intro ⟨qa, qb⟩ g hg hb
          rw [exc_E hE]
          have hs := s6.s hg
          by_cases hz : RY M1 g 0 = 0
          · refine p1.mpr (fun k hk hw' => qb k (Nat.zero_le _) hk hw') g hg ⟨hz, hb.1⟩ ?_
            have hb2 := hb.2
            rw [hz, Int.mul_zero] at hb2
            rcases Int.mul_eq_zero.mp hb2 with z | z
            · exact z
            · have := b3.1; omega
          · exact p0.mpr (fun k hk hw' => (x3.mp qa).2 k (Nat.zero_le _) hk hw') g hg ⟨by omega, hb.1⟩ hb.2
      have same : r = r' := by
        rcases q2 with rfl | rfl
        · exact (y2.resolve_right (fun q => absurd (key.mpr q) (by decide))).symm
        · exact (key.mp rfl).symm
      refine ANS.good (r := R) (y := r') (M1 := M1) (M3 := M4) c2 ?_ (by rw [← hR, same]) (w6'.trans (u6.trans (w6 M2 0))) (((t3.tr w6fm).tr u2).tr w2) w3
      unfold f_X3_tight b_X3_tight_0
      rw [t1, Option.bind_some]
      dsimp only
      rw [if_pos rfl]
      unfold b_X3_tight_13
      rw [t4.2.2.2.2.1, outR (by omega), Option.bind_some]
      dsimp only
      rw [if_pos hi, ref0, Option.bind_some]
      dsimp only
      rw [if_pos rfl, evry (t4.fm w6fm), Option.bind_some]
      dsimp only
      rw [u1, Option.bind_some, v1, Option.bind_some]
      dsimp only
      rw [i2]
      refine Eq.trans x1 ?_
      rw [evry u3, Option.bind_some]
      dsimp only
      rw [w1, Option.bind_some]
      exact y1
    · obtain ⟨st', M2, t1, t2, t3, t4⟩ := m_status hN s4
      have h0' : st' = 0 := t2.un s2
      subst h0'
      refine ANS.ref (k := 2) (M1 := M1) (M2 := M2) (y := 0) (by decide) ?_ ?_ t4
      · unfold f_L_tight f_X2_tight b_X2_tight_0
        rw [s1, Option.bind_some]
        dsimp only
        rw [if_pos rfl, hasR s4.2.1 hm3, Option.bind_some]
        dsimp only
        rw [if_neg hi, if_pos rfl, Option.bind_some]
        dsimp only
        rw [if_neg (by decide), if_pos rfl]
      · unfold f_X3_tight b_X3_tight_0
        rw [t1, Option.bind_some]
        dsimp only
        rw [if_pos rfl]
        unfold b_X3_tight_13
        rw [t4.2.2.2.2.1, outR (by omega), Option.bind_some]
        dsimp only
        rw [if_neg hi, ref2, Option.bind_some]
        dsimp only
        rw [if_neg (by decide)]
  · obtain ⟨st', M2, t1, t2, t3, t4⟩ := m_status hN s4
    have h0' : st' = st := t2.un s2
    subst h0'
    refine ANS.ref (k := 1) (M1 := M1) (M2 := M2) (y := 0) (by decide) ?_ ?_ t4
    · unfold f_L_tight f_X2_tight b_X2_tight_0
      rw [s1, Option.bind_some]
      dsimp only
      rw [if_neg h0, Option.bind_some]
      dsimp only
      rw [if_pos rfl]
    · unfold f_X3_tight b_X3_tight_0
      rw [t1, Option.bind_some]
      dsimp only
      rw [if_neg h0]
      unfold b_X3_tight_13
      rw [t4.2.2.2.2.1, outR (by omega), Option.bind_some]
      dsimp only
      rw [ref1, Option.bind_some]
      dsimp only
      rw [if_neg (by decide)]
end Qr
