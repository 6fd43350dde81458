section Qk
variable {M M' : Mm} {n m mask cn : Nat} {a : Nat → Nat → Int} {b e cc : Nat → Int} {sn : Nat → Int32}
theorem RYD (h : RY M' = RY M) : DT M' = DT M := by funext g; unfold DT; rw [h]
theorem RYM (h : RY M' = RY M) : isM M' = isM M := by funext g; unfold isM; rw [RYD h]
theorem RYL (h : RY M' = RY M) : lat M' = lat M := by funext g k; unfold lat; rw [RYD h, h]
theorem RYE (h : RY M' = RY M) : ltE cc n M' = ltE cc n M := by funext g k; unfold ltE kE dE; rw [RYW h, RYD h, h]
theorem RYS (h : RY M' = RY M) : ltS cc n M' = ltS cc n M := by funext f g k; unfold ltS kS dS; rw [RYW h, RYD h, h]
theorem INV.keep (h : INV M n m a b e cc sn) (hF : FC M M') (h2 : M'.1 2 = M.1 2) (h3 : M'.1 3 = M.1 3) (hL : ∀ κ, 12 ≤ κ → M'.2.2 κ = M.2.2 κ) : INV M' n m a b e cc sn :=
  ⟨h.1, h.2.1.fc hF, fun mask hm h3' => by
    rw [h3] at h3'
    obtain ⟨cn, hc⟩ := h.2.2.1 mask hm h3'
    exact ⟨cn, hc.kept h2 h3 hL⟩, h.2.2.2.fc hF⟩
/-- the class walks along -/
theorem c_trace {N : Nat} (hN : 600 ≤ N) (h : INV M n m a b e cc sn) : ∃ c s M' cn, f_X2_traceBends N M = some (nI c, M') ∧ FC M M' ∧ INV M' n m a b e cc sn ∧ CON M' n m (2 ^ m - 1) (Eof a b e) sn cn ∧ CX M' n cn cc ∧ c ≤ cn ∧ ((RiseS n m a b e cc sn ∧ c = 0) ∨ (¬ RiseS n m a b e cc sn ∧ CHW (isM M') (ltE cc n M') (lat M') (ltS cc n M') cn c s ∧ ∀ i, i < c → M'.2.1 5 i = nI (s i))) := by
  obtain ⟨M1, cn, a1, a2, a3, a4, a5⟩ := c_coll hN h (all_lt m)
  have c126 := a5.2.2.2.1
  obtain ⟨q, q1, q2, q3⟩ := rise_s (N := N) (by omega) a5
  have q4 := q3.trans (rs_c h.1.2.1 a4.2.2.2)
  unfold f_X2_traceBends b_X2_traceBends_0
  rw [allr h.1.2.2.1 h.2.1.2.1, Option.bind_some]
  dsimp only
  rw [a1, Option.bind_some, q1, Option.bind_some]
  dsimp only
  rcases q2 with rfl | rfl
  · rw [if_pos rfl]
    obtain ⟨r, r1, r2⟩ := earl_s (N := N) (by omega) a5
    obtain ⟨c, s, M2, t1, t2, t3, t4, t5, t6, t7⟩ := trac_loop (N := N) (by omega) cn 0 N M1 (fun _ => 0) r a5 (by omega) (by omega) ⟨fun i hi => by omega, fun hi => by omega, fun i hi => by omega⟩ (Or.inl ⟨rfl, r2⟩) (fun i hi => by omega)
    have hF : FC M1 M2 := ⟨fun k _ _ => by rw [t2], fun k _ k5 => t4 k k5, fun κ _ => by rw [t3]⟩
    have hR : RY M2 = RY M1 := RYe (fun κ _ => by rw [t3])
    have hI : INV M2 n m a b e cc sn := a3.keep hF (by rw [t2]) (by rw [t2]) (fun κ _ => by rw [t3])
    have hC : CON M2 n m (2 ^ m - 1) (Eof a b e) sn cn := a4.kept (by rw [t2]) (by rw [t2]) (fun κ _ => by rw [t3])
    refine ⟨c, s, M2, cn, ?_, a2.tr hF, hI, hC, CX_of h.1 hI.2.1 hC, t6, Or.inr ⟨fun q => absurd (q4.mpr q) (by decide), ?_, t7⟩⟩
    · rw [r1, Option.bind_some]
      exact t1
    · rw [RYM hR, RYE hR, RYL hR, RYS hR]
      exact t5
  · rw [if_neg (by decide)]
    exact ⟨0, fun _ => 0, M1, cn, rfl, a2, a3, a4, a5, Nat.zero_le _, Or.inl ⟨q4.mp rfl, rfl⟩⟩
theorem e22E (h : M'.2.2 = M.2.2) : ltEm n M' = ltEm n M := by funext g k; unfold ltEm kEm dBm MA MB MW; rw [h]
theorem e22L (h : M'.2.2 = M.2.2) : latm n M' = latm n M := by funext g k; unfold latm MA MB; rw [h]
theorem e22S (h : M'.2.2 = M.2.2) : ltSm n M' = ltSm n M := by funext f g k; unfold ltSm kSm dSm MA MB MW; rw [h]
theorem MX.e22 {w f : Nat} {kd kv : Int} (hX : MX M n w f cc kd kv) (h : M'.2.2 = M.2.2) (h4 : M'.1 4 = M.1 4) (h9 : M'.1 9 = M.1 9) : MX M' n w f cc kd kv := by
  unfold MX MA MB MW at hX ⊢
  rw [h, h4, h9]
  exact hX
theorem MLS.e22 {x2 : Int32} {w f : Nat} (hX : MLS M x2 n m mask a b e cc sn w f) (h : M'.2.2 = M.2.2) : MLS M' x2 n m mask a b e cc sn w f := by
  unfold MLS VT at hX ⊢
  rw [h]
  exact hX
theorem w10fm {x : Int32} : FM M (wI M 10 x) := ⟨fun k hk => pk_un (by omega), fun _ _ => rfl, fun _ _ => rfl⟩
/-- the reference walks along -/
theorem m_trace {N : Nat} (hN : 600 ≤ N) (h : INV M n m a b e cc sn) : ∃ c s M' f, f_X3_findCorners N M = some M' ∧ FM M M' ∧ INV M' n m a b e cc sn ∧ M'.1 10 = nI c ∧ c ≤ 126 ∧ ((RiseS n m a b e cc sn ∧ c = 0) ∨ (¬ RiseS n m a b e cc sn ∧ MLS M' 2 n m (2 ^ m - 1) a b e cc sn (n + 1) f ∧ MX M' n (n + 1) f cc 4374 802400 ∧ CHW (fun k => k < f) (ltEm n M') (latm n M') (ltSm n M') f c s ∧ ∀ i, i < c → M'.2.1 14 i = nI (s i))) := by
  obtain ⟨r, M1, a1, a2, a3, a4, a5⟩ := m_grows hN h
  obtain ⟨M2, f, b1, b2, b3, b4, b5⟩ := m_coll hN a5 (all_lt m) (x2 := 2) (w := n + 1) (Or.inl ⟨rfl, rfl⟩)
  have f126 := b5.2.2.2.2.2.1
  have h10 : (wI M2 10 0).1 10 = nI 0 := (pk_us (f := M2.1) (k := 10)).trans nI_0.symm
  have h9 : upd M2.1 10 0 9 = nI f := (pk_un (f := M2.1) (k := 10) (j := 9) (x := 0) (by decide)).trans b5.2.2.2.2.1
  have h4 : (wI M2 10 0).1 4 = M2.1 4 := pk_un (f := M2.1) (k := 10) (j := 4) (x := 0) (by decide)
  have hX : MX (wI M2 10 0) n (n + 1) f cc 4374 802400 := MX.e22 (M := M2) b5 rfl h4 (pk_un (f := M2.1) (k := 10) (j := 9) (x := 0) (by decide))
  have hL : MLS (wI M2 10 0) 2 n m (2 ^ m - 1) a b e cc sn (n + 1) f := MLS.e22 (M := M2) b4 rfl
  have hF := (a4.tr b2).tr (w10fm (x := 0))
  have hI : INV (wI M2 10 0) n m a b e cc sn := b3.fm w10fm
  unfold f_X3_findCorners b_X3_findCorners_0
  rw [a1, Option.bind_some]
  dsimp only
  rw [evry a5, Option.bind_some]
  dsimp only
  rw [b1, Option.bind_some]
  rcases a2 with rfl | rfl
  · have hr : ¬ RiseS n m a b e cc sn := fun q => absurd (a3.mpr q) (by decide)
    rw [if_pos rfl]
    by_cases f0 : f = 0
    · subst f0
      rw [if_pos (h9.trans nI_0)]
      exact ⟨0, fun _ => 0, wI M2 10 0, 0, rfl, hF, hI, h10, by decide, Or.inr ⟨hr, hL, hX, ⟨⟨fun i hi => by omega, fun hi => by omega, fun i hi => by omega⟩, fun _ g hg => by omega, fun hc => by omega⟩, fun i hi => by omega⟩⟩
    · rw [if_neg (fun q => nI_ne0 (n := f) (by omega) (by omega) (h9.symm.trans q))]
      have hY : MY (wI M2 10 0) n (n + 1) f cc := ⟨hX, by omega, fun k hk => by
        obtain ⟨v, d, v1, -, -, -, v2, -⟩ := hL.1 k hk
        have e1 : MB (wI M2 10 0) k = d := v1.1
        have e2 : MA (wI M2 10 0) k n = v n := v1.2.1 n (by omega)
        rw [e1, e2]
        exact v2 rfl⟩
      obtain ⟨at_, t1, t2, t3⟩ := first_loop (N := N) hY (f - 1) 1 0 N (by omega) (by omega) (by omega) (AM.one (fun g => lx_ir 2 0))
      have t4 := (t3.fin ⟨0, by omega, by omega⟩).2
      obtain ⟨c, s, M3, u1, u2, u3, u4, u5, u6, u7, u8⟩ := corn_loop (N := N) (by omega) f 0 N (wI M2 10 0) (fun _ => 0) (nI at_) hY (by omega) (by omega) h10 ⟨fun i hi => by omega, fun hi => by omega, fun i hi => by omega⟩ (Or.inl ⟨rfl, Or.inr ⟨at_, t2, rfl, t2, t4⟩⟩) (fun i hi => by omega)
      have hF3 : FM (wI M2 10 0) M3 := ⟨fun k hk => u3 k (by omega), fun k hk => u5 k (by omega), fun κ _ => by rw [u4]⟩
      refine ⟨c, s, M3, f, Eq.trans (Eq.trans ?_ t1) u1, hF.tr hF3, hI.fm hF3, u2, by omega, Or.inr ⟨hr, hL.e22 u4, hX.e22 u4 (u3 4 (by decide)) (u3 9 (by decide)), ?_, u8⟩⟩
      · rfl
      · rw [e22E u4, e22L u4, e22S u4]
        exact u6
  · rw [if_neg (by decide)]
    exact ⟨0, fun _ => 0, wI M2 10 0, f, rfl, hF, hI, h10, by decide, Or.inl ⟨a3.mp rfl, rfl⟩⟩
/-- both walk along the same corners -/
theorem walks {N : Nat} (hN : 600 ≤ N) (h : INV M n m a b e cc sn) : ∃ (c : Nat) (s : Nat → Nat) (M1 : Mm) (cn : Nat), f_X2_traceBends N M = some (nI c, M1) ∧ INV M1 n m a b e cc sn ∧ CX M1 n cn cc ∧ c ≤ cn ∧ (∀ i, i < c → M1.2.1 5 i = nI (s i) ∧ s i < cn ∧ isM M1 (s i)) ∧ ∀ M2, (∃ r : Int64, FM (sL M1 5 0 r) M2) ∨ FM M1 M2 → INV M2 n m a b e cc sn →
    ∃ (s' : Nat → Nat) (M3 : Mm) (f : Nat), f_X3_findCorners N M2 = some M3 ∧ FM M2 M3 ∧ INV M3 n m a b e cc sn ∧ M3.1 10 = nI c ∧ ∀ i, i < c → M3.2.1 14 i = nI (s' i) ∧ s' i < f ∧ MX M3 n (n + 1) f cc 4374 802400 ∧ RY M1 (s i) 1 * MB M3 (s' i) = MA M3 (s' i) n * DT M1 (s i) ∧ WR cc n M1 (s i) * MB M3 (s' i) = MW M3 (s' i) * DT M1 (s i) := by
  obtain ⟨c, s, M1, cn, a1, a2, a3, a4, a5, a6, a7⟩ := c_trace hN h
  refine ⟨c, s, M1, cn, a1, a3, a5, a6, fun i hi => ?_, fun M2 hF hI => ?_⟩
  · rcases a7 with ⟨_, c0⟩ | ⟨_, w, v⟩
    · omega
    · exact ⟨v i hi, w.1.1 i hi⟩
  · obtain ⟨c', s', M3, f, b1, b2, b3, b4, b5, b6⟩ := m_trace hN hI
    rcases a7 with ⟨r1, c0⟩ | ⟨r1, w1, v1⟩ <;> rcases b6 with ⟨r2, c0'⟩ | ⟨r2, l2, x2, w2, v2⟩
    · subst c0 c0'
      exact ⟨s', M3, f, b1, b2, b3, b4, fun i hi => by omega⟩
    · exact absurd r1 r2
    · exact absurd r2 r1
    · obtain ⟨k1, k3⟩ : CON M3 n m (2 ^ m - 1) (Eof a b e) sn cn ∧ RY M3 = RY M1 := by
        rcases hF with ⟨r, hF⟩ | hF
        · obtain ⟨k1, k2, k3⟩ := trs h.1 a4 (hF.tr b2)
          exact ⟨k1, k3⟩
        · exact ⟨a4.fm (hF.tr b2), RYe (fun κ hκ => (hF.tr b2).2.2 κ (by omega))⟩
      obtain ⟨d1, d2⟩ := c_walk h.1 (rf_of h.1 k1.2.2.2) k1.2.2.2 l2 x2 (c := c) (s := s) (by rw [RYM k3, RYE k3, RYL k3, RYS k3]; exact w1) w2
      subst d1
      refine ⟨s', M3, f, b1, b2, b3, b4, fun i hi => ?_⟩
      obtain ⟨m1, m2, m3, m4⟩ := d2 i hi
      rw [k3, RYD k3] at m3
      rw [RYW k3, RYD k3] at m4
      exact ⟨v2 i hi, m2, x2, m3, m4⟩
theorem t_corners {N : Nat} (hN : 600 ≤ N) (h : INV M n m a b e cc sn) : ∃ r M1 M2, f_X2_corners N M = some (r, M1) ∧ f_X3_corners N M1 = some (r, M2) ∧ INV M2 n m a b e cc sn := by
  obtain ⟨c, s, M1, cn, a1, a2, -, -, -, a3⟩ := walks hN h
  obtain ⟨s', M3, f, b1, b2, b3, b4, -⟩ := a3 (wI M1 6 0) (Or.inr w6fm) (a2.fm w6fm)
  refine ⟨nI c, M1, M3, ?_, ?_, b3⟩
  · unfold f_X2_corners b_X2_corners_0
    rw [a1, Option.bind_some]
  · unfold f_X3_corners b_X3_corners_0
    rw [b1, Option.bind_some, b4]
theorem lt_inR {x : Int32} {c : Nat} (hc : c < 2 ^ 31) : (¬ x < 0 ∧ x < nI c) ↔ inR x c := by
  rw [Int32.lt_iff_toInt_lt, Int32.lt_iff_toInt_lt, i0, nI_toInt hc]
  constructor
  · intro ⟨h1, h2⟩; exact ⟨by omega, h2⟩
  · intro ⟨h1, h2⟩; exact ⟨by omega, h2⟩
theorem t_corner {N : Nat} (hN : 600 ≤ N) (h : INV M n m a b e cc sn) (x z : Int32) : ANS (fun y => y) (f_L_corner N x z M) (f_X3_corner N x z) n m a b e cc sn := by
  obtain ⟨c, s, M1, cn, a1, a2, a3, a4, a5, a6⟩ := walks hN h
  have c126 := a3.2.2.2.1
  have hn4 := h.1.2.1
  have e3 : (3 : Int32).toInt = 3 := by decide
  by_cases hi : inR x c
  · obtain ⟨x0, x1⟩ := (lt_inR (by omega)).mpr hi
    obtain ⟨i, i1, i2⟩ := inR_nI hi (by omega)
    by_cases hz : (0 : Int32).toInt ≤ z.toInt ∧ z.toInt ≤ (3 : Int32).toInt
    · have z0 : ¬ z < 0 := fun q => by have := Int32.lt_iff_toInt_lt.mp q; omega
      have z3 : z ≤ 3 := Int32.le_iff_toInt_le.mpr hz.2
      obtain ⟨p1, p2, p3⟩ := a5 i i1
      have hs := a3.s p2
      have wb := WR_b a3 p2
      obtain ⟨y, y1, y2⟩ := wth_r (N := N) (by omega) a3 p2
      have hD : (M1.2.2 (12 + s i) 0 + M1.2.2 (12 + s i) 1).toInt = DT M1 (s i) := by
        unfold RY at hs
        rw [Kit.i64_add (by omega) (by omega)]
        rfl
      have hDp : 0 < DT M1 (s i) := p3
      have hDb : DT M1 (s i) ≤ 57348 := by unfold DT; omega
      have c1 : f_X2_corner N x z M = some (.inr (Int64.ofInt (if 2 ≤ z then fr (WR cc n M1 (s i)) (DT M1 (s i)) (z - 2) else fr (RY M1 (s i) 1) (DT M1 (s i)) z)), M1) := by
        unfold f_X2_corner b_X2_corner_0
        rw [a1, Option.bind_some]
        dsimp only
        rw [if_neg x0, if_pos x1, if_neg z0, if_pos z3, i2, rA_i (by rw [lnA5]; omega), Option.bind_some, p1, rO2 (by omega), Option.bind_some, rR0 (by omega), Option.bind_some, rR1 (by omega), Option.bind_some]
        by_cases hz2 : 2 ≤ z
        · rw [if_pos hz2, if_pos hz2, y1, Option.bind_some]
          dsimp only
          rw [prt (by omega) (by rw [y2]; omega) (by rw [hD]; exact hDp) (by rw [hD]; omega) (z - 2) M1, Option.bind_some, y2, hD]
        · rw [if_neg hz2, if_neg hz2, Option.bind_some]
          rw [prt (by omega) (Int.lt_of_le_of_lt (a3.r p2 (c := 1) (by decide)) (by decide)) (by rw [hD]; exact hDp) (by rw [hD]; omega) z M1, Option.bind_some, hD]
          rfl
      generalize hR : Int64.ofInt (if 2 ≤ z then fr (WR cc n M1 (s i)) (DT M1 (s i)) (z - 2) else fr (RY M1 (s i) 1) (DT M1 (s i)) z) = R at c1
      obtain ⟨s', M3, f, b1, b2, b3, b4, b5⟩ := a6 (sL M1 5 0 R) (Or.inl ⟨R, FM.rf⟩) a2.out
      obtain ⟨k1, k2, k3, k4, k5⟩ := b5 i i1
      have f126 := k3.2.2.2.2.2.1
      have hB := k3.2.2.2.2.2.2.2 (s' i) k2
      have hW := k3.Wb k2
      have hA := k3.A k2 (j := n) (by omega)
      refine ANS.good (r := R) (y := R) (M1 := M1) (M3 := wI M3 6 0) ?_ ?_ rfl (w6 M3 0) (b2.tr w6fm) (b3.fm w6fm)
      · unfold f_L_corner
        rw [c1, Option.bind_some]
        dsimp only
        rw [wOut, Option.bind_some]
      · unfold f_X3_corner b_X3_corner_0
        rw [b1, Option.bind_some]
        rw [b4, outR (by omega), Option.bind_some]
        dsimp only
        rw [outs, Option.bind_some]
        dsimp only
        rw [if_pos hi, if_pos hz, ref0, Option.bind_some]
        dsimp only
        rw [if_pos rfl, i2, show rA (wI M3 6 0) 14 (nI i) = some (M3.2.1 14 i) from rA_i (M := wI M3 6 0) (by rw [lnA14]; omega), Option.bind_some, k1]
        by_cases hz2 : 2 ≤ z
        · rw [if_pos hz2] at hR ⊢
          rw [rM4 (by omega), Option.bind_some, rM3 (by omega), Option.bind_some, tld (by omega) (by unfold MW at hW; exact Int.lt_of_le_of_lt hW (by decide)) hB.1 (Int.lt_of_le_of_lt hB.2.1 (by decide)) (z - 2) _, Option.bind_some]
          dsimp only
          rw [← hR, fr_eq hDp hB.1 k5 (z - 2)]
          rfl
        · rw [if_neg hz2] at hR ⊢
          rw [show upd M3.1 6 0 4 = nI n from (pk_un (f := M3.1) (k := 6) (j := 4) (x := 0) (by decide)).trans b3.2.2.2.1, ix5, rM2 (by omega) (by omega), Option.bind_some, rM3 (by omega), Option.bind_some, tld (by omega) (by unfold MA at hA; exact Int.lt_of_le_of_lt hA (by decide)) hB.1 (Int.lt_of_le_of_lt hB.2.1 (by decide)) z _, Option.bind_some]
          dsimp only
          rw [← hR, fr_eq hDp hB.1 k4 z]
          rfl
    · obtain ⟨s', M3, f, b1, b2, b3, b4, b5⟩ := a6 M1 (Or.inr FM.rf) a2
      refine ANS.ref (k := 2) (M1 := M1) (M2 := M3) (y := 0) (by decide) ?_ ?_ b3
      · unfold f_L_corner f_X2_corner b_X2_corner_0
        rw [a1, Option.bind_some]
        dsimp only
        rw [if_neg x0, if_pos x1]
        by_cases z0 : z < 0
        · rw [if_pos z0, Option.bind_some]
          dsimp only
          rw [if_neg (by decide), if_pos rfl]
        · have z3 : ¬ z ≤ 3 := fun q => hz ⟨by
            have : ¬ z.toInt < (0 : Int32).toInt := fun q => z0 (Int32.lt_iff_toInt_lt.mpr q)
            omega, Int32.le_iff_toInt_le.mp q⟩
          rw [if_neg z0, if_neg z3, Option.bind_some]
          dsimp only
          rw [if_neg (by decide), if_pos rfl]
      · unfold f_X3_corner b_X3_corner_0
        rw [b1, Option.bind_some]
        rw [b4, outR (by omega), Option.bind_some]
        dsimp only
        rw [outs, Option.bind_some]
        dsimp only
        rw [if_pos hi, if_neg hz, ref2, Option.bind_some]
        dsimp only
        rw [if_neg (by decide)]
  · obtain ⟨s', M3, f, b1, b2, b3, b4, b5⟩ := a6 M1 (Or.inr FM.rf) a2
    refine ANS.ref (k := 1) (M1 := M1) (M2 := M3) (y := 0) (by decide) ?_ ?_ b3
    · unfold f_L_corner f_X2_corner b_X2_corner_0
      rw [a1, Option.bind_some]
      dsimp only
      by_cases x0 : x < 0
      · rw [if_pos x0, Option.bind_some]
        dsimp only
        rw [if_pos rfl]
      · rw [if_neg x0, if_neg (fun q => hi ((lt_inR (by omega)).mp ⟨x0, q⟩)), Option.bind_some]
        dsimp only
        rw [if_pos rfl]
    · unfold f_X3_corner b_X3_corner_0
      rw [b1, Option.bind_some]
      rw [b4, outR (by omega), Option.bind_some]
      dsimp only
      rw [outs, Option.bind_some]
      dsimp only
      rw [if_neg hi, ref1, Option.bind_some]
      dsimp only
      rw [if_neg (by decide)]
end Qk
