section Ca
variable {M : Mm} {n cn : Nat} {cc : Nat → Int}
def ltF (M : Mm) (x3 : Int32) (c g k : Nat) : Prop := LX (kF (x3 ≠ 0) M c g) (dB M g) (kF (x3 ≠ 0) M c k) (dB M k) 1 0
theorem extr_loop {N : Nat} (h : CX M n cn cc) {j : Nat} (hj : j < n) (x3 : Int32) : ∀ (d g at_ fuel : Nat), g + d = cn → d < fuel → at_ < cn → AM (isP M) (ltF M x3 (2 + j)) at_ g →
    ∃ a, lpT (fun _ _ _ _ _ => none) (F_X2_extremeRay_13 N) fuel (nI j) x3 (12 + at_) (nI g) M = some (12 + a, M) ∧ a < cn ∧ AM (isP M) (ltF M x3 (2 + j)) a cn := by
  have hc := h.2.2.2.1
  have tr : ∀ a b c, isP M a → isP M b → isP M c → ltF M x3 (2 + j) a b → ltF M x3 (2 + j) b c → ltF M x3 (2 + j) a c := fun a b c pa pb pc x y => lx_tr (n := 1) (fun _ _ => pa.1) (fun _ _ => pb.1) (fun _ _ => pc.1) 1 0 (by omega) x y
  have ir : ∀ g, ¬ ltF M x3 (2 + j) g g := fun g => lx_ir 1 0
  intro d
  induction d with
  | zero =>
    intro g at_ fuel hg hf ha hA
    obtain ⟨x, rfl, -⟩ := fuel_s hf
    refine ⟨at_, ?_, ha, by rw [← (show g = cn by omega)]; exact hA⟩
    rw [lp_s]
    generalize lpT (fun _ _ _ _ _ => none) (F_X2_extremeRay_13 N) x = q
    unfold F_X2_extremeRay_13
    rw [h.2.2.1, if_pos ((nI_leI (by omega) (by omega)).mpr (by omega))]
  | succ d ih =>
    intro g at_ fuel hg hf ha hA
    obtain ⟨x, rfl, hx⟩ := fuel_s hf
    have step : ∀ at', at' < cn → AM (isP M) (ltF M x3 (2 + j)) at' (g + 1) → ∃ a, lpT (fun _ _ _ _ _ => none) (F_X2_extremeRay_13 N) x (nI j) x3 (12 + at') (nI (g + 1)) M = some (12 + a, M) ∧ a < cn ∧ AM (isP M) (ltF M x3 (2 + j)) a cn := fun at' h1 h2 => ih (g + 1) at' x (by omega) hx h1 h2
    rw [lp_s]
    generalize lpT (fun _ _ _ _ _ => none) (F_X2_extremeRay_13 N) x = q at step ⊢
    unfold F_X2_extremeRay_13
    rw [h.2.2.1, if_neg (fun q => by have := (nI_leI (by omega) (by omega)).mp q; omega), rO2 (by omega), Option.bind_some, isPt (by omega), Option.bind_some]
    dsimp only
    by_cases pg : isP M g
    · rw [if_pos (show 0 < RY M g 0 ∧ RY M g 1 = 0 from pg), if_neg (by decide), isPt (by omega), Option.bind_some]
      dsimp only
      by_cases pa : isP M at_
      · rw [if_pos (show 0 < RY M at_ 0 ∧ RY M at_ 1 = 0 from pa), if_neg (by decide)]
        obtain ⟨r, r1, r2, r3⟩ := isFa (N := N) h (show g < cn by omega) ha hj x3
        rw [r1, Option.bind_some]
        dsimp only
        rw [nI_1]
        rcases r2 with rfl | rfl
        · rw [if_pos rfl]
          exact step at_ ha (hA.keep pa (fun q => absurd (r3.mpr q) (by decide)))
        · rw [if_neg (by decide)]
          exact step g (by omega) (hA.take ir tr pa pg (r3.mp rfl))
      · rw [if_neg (show ¬ (0 < RY M at_ 0 ∧ RY M at_ 1 = 0) from pa), if_pos rfl, nI_1]
        exact step g (by omega) (hA.first ir pa pg)
    · rw [if_neg (show ¬ (0 < RY M g 0 ∧ RY M g 1 = 0) from pg), if_pos rfl, nI_1]
      exact step at_ ha (hA.no pg)
theorem extr_s {N : Nat} (hN : 200 ≤ N) (h : CX M n cn cc) {j : Nat} (hj : j < n) (x3 : Int32) (hx : ∃ g, g < cn ∧ isP M g) : ∃ a, f_X2_extremeRay N (nI j) x3 M = some (12 + a, M) ∧ a < cn ∧ isP M a ∧ ∀ g, g < cn → isP M g → ¬ ltF M x3 (2 + j) g a := by
  have hc := h.2.2.2.1
  have h1 : 1 ≤ cn := by obtain ⟨g, hg, -⟩ := hx; omega
  obtain ⟨a, a1, a2, a3⟩ := extr_loop (N := N) h hj x3 (cn - 1) 1 0 N (by omega) (by omega) h1 (AM.one (fun g => lx_ir 1 0))
  obtain ⟨b1, b2⟩ := a3.fin hx
  refine ⟨a, ?_, a2, b1, b2⟩
  unfold f_X2_extremeRay b_X2_extremeRay_0
  rw [show rO 2 0 = some (12 + 0) from rO2 (i := 0) (by decide), Option.bind_some]
  exact a1
theorem feas_loop {N : Nat} (h : CX M n cn cc) : ∀ (d g fuel : Nat), g + d = cn → d < fuel →
    ∃ r, lpT (fun _ _ => none) (F_X2_isFeasible_14 N) fuel (nI g) M = some (r, M) ∧ (r = 0 ∨ r = 1) ∧ (r = 1 ↔ ∃ g', g ≤ g' ∧ g' < cn ∧ isP M g') := by
  have hc := h.2.2.2.1
  intro d
  induction d with
  | zero =>
    intro g fuel hg hf
    obtain ⟨x, rfl, -⟩ := fuel_s hf
    refine ⟨0, ?_, Or.inl rfl, ⟨fun q => absurd q (by decide), fun ⟨g', a, b, _⟩ => by omega⟩⟩
    rw [lp_s]
    generalize lpT (fun _ _ => none) (F_X2_isFeasible_14 N) x = q
    unfold F_X2_isFeasible_14
    rw [h.2.2.1, if_pos ((nI_leI (by omega) (by omega)).mpr (by omega))]
  | succ d ih =>
    intro g fuel hg hf
    obtain ⟨x, rfl, hx⟩ := fuel_s hf
    obtain ⟨r, i1, i2, i3⟩ := ih (g + 1) x (by omega) hx
    rw [lp_s]
    generalize lpT (fun _ _ => none) (F_X2_isFeasible_14 N) x = q at i1 ⊢
    unfold F_X2_isFeasible_14
    rw [h.2.2.1, if_neg (fun q => by have := (nI_leI (by omega) (by omega)).mp q; omega), rO2 (by omega), Option.bind_some, isPt (by omega), Option.bind_some]
    dsimp only
    by_cases pg : isP M g
    · rw [if_pos (show 0 < RY M g 0 ∧ RY M g 1 = 0 from pg), if_neg (by decide)]
      exact ⟨1, rfl, Or.inr rfl, ⟨fun _ => ⟨g, Nat.le_refl _, by omega, pg⟩, fun _ => rfl⟩⟩
    · rw [if_neg (show ¬ (0 < RY M g 0 ∧ RY M g 1 = 0) from pg), if_pos rfl, nI_1]
      refine ⟨r, i1, i2, i3.trans ⟨fun ⟨g', a, b, c⟩ => ⟨g', by omega, b, c⟩, fun ⟨g', a, b, c⟩ => ⟨g', ?_, b, c⟩⟩⟩
      by_cases e : g' = g
      · rw [e] at c; exact absurd c pg
      · omega
def isD (M : Mm) (g : Nat) : Prop := RY M g 0 = 0 ∧ RY M g 1 = 0
theorem rise_loop {N : Nat} (hN : 10 ≤ N) (h : CX M n cn cc) : ∀ (d g fuel : Nat), g + d = cn → d < fuel →
    ∃ r, lpT (fun _ _ => none) (F_X2_canRise_2 N) fuel (nI g) M = some (r, M) ∧ (r = 0 ∨ r = 1) ∧ (r = 1 ↔ ∃ g', g ≤ g' ∧ g' < cn ∧ isD M g' ∧ 0 < WR cc n M g') := by
  have hc := h.2.2.2.1
  intro d
  induction d with
  | zero =>
    intro g fuel hg hf
    obtain ⟨x, rfl, -⟩ := fuel_s hf
    refine ⟨0, ?_, Or.inl rfl, ⟨fun q => absurd q (by decide), fun ⟨g', a, b, _⟩ => by omega⟩⟩
    rw [lp_s]
    generalize lpT (fun _ _ => none) (F_X2_canRise_2 N) x = q
    unfold F_X2_canRise_2
    rw [h.2.2.1, if_pos ((nI_leI (by omega) (by omega)).mpr (by omega))]
  | succ d ih =>
    intro g fuel hg hf
    obtain ⟨x, rfl, hx⟩ := fuel_s hf
    obtain ⟨r, i1, i2, i3⟩ := ih (g + 1) x (by omega) hx
    obtain ⟨y, y1, y2⟩ := wth_r hN h (show g < cn by omega)
    have go : ¬ (isD M g ∧ 0 < WR cc n M g) → (r = 1 ↔ ∃ g', g ≤ g' ∧ g' < cn ∧ isD M g' ∧ 0 < WR cc n M g') := fun hno => i3.trans ⟨fun ⟨g', a, b, c⟩ => ⟨g', by omega, b, c⟩, fun ⟨g', a, b, c⟩ => ⟨g', by
      by_cases e : g' = g
      · rw [e] at c; exact absurd c hno
      · omega, b, c⟩⟩
    rw [lp_s]
    generalize lpT (fun _ _ => none) (F_X2_canRise_2 N) x = q at i1 ⊢
    unfold F_X2_canRise_2
    rw [h.2.2.1, if_neg (fun q => by have := (nI_leI (by omega) (by omega)).mp q; omega), rO2 (by omega), Option.bind_some, isDi (by omega), Option.bind_some]
    dsimp only
    by_cases pg : isD M g
    · rw [if_pos (show RY M g 0 = 0 ∧ RY M g 1 = 0 from pg), if_neg (by decide), Option.bind_some, y1, Option.bind_some]
      dsimp only
      by_cases w : 0 < WR cc n M g
      · rw [if_neg (fun q => by have := cmp_le.mp q; rw [y2, l0] at this; omega)]
        exact ⟨1, rfl, Or.inr rfl, ⟨fun _ => ⟨g, Nat.le_refl _, by omega, pg, w⟩, fun _ => rfl⟩⟩
      · rw [if_pos (cmp_le.mpr (by rw [y2, l0]; omega)), nI_1]
        exact ⟨r, i1, i2, go (fun q => w q.2)⟩
    · rw [if_neg (show ¬ (RY M g 0 = 0 ∧ RY M g 1 = 0) from pg), if_pos rfl, nI_1]
      exact ⟨r, i1, i2, go (fun q => pg q.1)⟩
theorem rise_s {N : Nat} (hN : 200 ≤ N) (h : CX M n cn cc) : ∃ r, f_X2_canRise N M = some (r, M) ∧ (r = 0 ∨ r = 1) ∧ (r = 1 ↔ ∃ g', g' < cn ∧ isD M g' ∧ 0 < WR cc n M g') := by
  have hc := h.2.2.2.1
  obtain ⟨r, a, b, c⟩ := rise_loop (N := N) (by omega) h cn 0 N (by omega) (by omega)
  exact ⟨r, a, b, c.trans ⟨fun ⟨g', _, x⟩ => ⟨g', x⟩, fun ⟨g', x⟩ => ⟨g', Nat.zero_le _, x⟩⟩⟩
theorem grow_loop {N j : Nat} (hj : j < n) (h : CX M n cn cc) : ∀ (d g fuel : Nat), g + d = cn → d < fuel →
    ∃ r, lpT (fun _ _ _ => none) (F_X2_canGrow_2 N) fuel (nI j) (nI g) M = some (r, M) ∧ (r = 0 ∨ r = 1) ∧ (r = 1 ↔ ∃ g', g ≤ g' ∧ g' < cn ∧ isD M g' ∧ 0 < RY M g' (2 + j)) := by
  have hc := h.2.2.2.1
  have hn := h.1
  intro d
  induction d with
  | zero =>
    intro g fuel hg hf
    obtain ⟨x, rfl, -⟩ := fuel_s hf
    refine ⟨0, ?_, Or.inl rfl, ⟨fun q => absurd q (by decide), fun ⟨g', a, b, _⟩ => by omega⟩⟩
    rw [lp_s]
    generalize lpT (fun _ _ _ => none) (F_X2_canGrow_2 N) x = q
    unfold F_X2_canGrow_2
    rw [h.2.2.1, if_pos ((nI_leI (by omega) (by omega)).mpr (by omega))]
  | succ d ih =>
    intro g fuel hg hf
    obtain ⟨x, rfl, hx⟩ := fuel_s hf
    obtain ⟨r, i1, i2, i3⟩ := ih (g + 1) x (by omega) hx
    have go : ¬ (isD M g ∧ 0 < RY M g (2 + j)) → (r = 1 ↔ ∃ g', g ≤ g' ∧ g' < cn ∧ isD M g' ∧ 0 < RY M g' (2 + j)) := fun hno => i3.trans ⟨fun ⟨g', a, b, c⟩ => ⟨g', by omega, b, c⟩, fun ⟨g', a, b, c⟩ => ⟨g', by
      by_cases e : g' = g
      · rw [e] at c; exact absurd c hno
      · omega, b, c⟩⟩
    rw [lp_s]
    generalize lpT (fun _ _ _ => none) (F_X2_canGrow_2 N) x = q at i1 ⊢
    unfold F_X2_canGrow_2
    rw [h.2.2.1, if_neg (fun q => by have := (nI_leI (by omega) (by omega)).mp q; omega), rO2 (by omega), Option.bind_some, isDi (by omega), Option.bind_some]
    dsimp only
    by_cases pg : isD M g
    · rw [if_pos (show RY M g 0 = 0 ∧ RY M g 1 = 0 from pg), if_neg (by decide), Option.bind_some, ix2, rR (by omega) (by omega), Option.bind_some]
      by_cases w : 0 < RY M g (2 + j)
      · rw [if_neg (fun q => by have := cmp_le.mp q; rw [l0] at this; unfold RY at w; omega)]
        exact ⟨1, rfl, Or.inr rfl, ⟨fun _ => ⟨g, Nat.le_refl _, by omega, pg, w⟩, fun _ => rfl⟩⟩
      · rw [if_pos (cmp_le.mpr (by rw [l0]; unfold RY at w; omega)), nI_1]
        exact ⟨r, i1, i2, go (fun q => w q.2)⟩
    · rw [if_neg (show ¬ (RY M g 0 = 0 ∧ RY M g 1 = 0) from pg), if_pos rfl, nI_1]
      exact ⟨r, i1, i2, go (fun q => pg q.1)⟩
theorem grow_s {N j : Nat} (hN : 200 ≤ N) (hj : j < n) (h : CX M n cn cc) : ∃ r, f_X2_canGrow N (nI j) M = some (r, M) ∧ (r = 0 ∨ r = 1) ∧ (r = 1 ↔ ∃ g', g' < cn ∧ isD M g' ∧ 0 < RY M g' (2 + j)) := by
  have hc := h.2.2.2.1
  obtain ⟨r, a, b, c⟩ := grow_loop (N := N) hj h cn 0 N (by omega) (by omega)
  exact ⟨r, a, b, c.trans ⟨fun ⟨g', _, x⟩ => ⟨g', x⟩, fun ⟨g', x⟩ => ⟨g', Nat.zero_le _, x⟩⟩⟩
/-- a best ray: a best point, or a direction of worth 0 -/
def isB (cc : Nat → Int) (n : Nat) (M : Mm) (b g : Nat) : Prop := RY M g 1 = 0 ∧ WR cc n M g * RY M b 0 = WR cc n M b * RY M g 0
theorem shrp_loop {N i b : Nat} (hN : 10 ≤ N) (hi : i < 3) (h : CX M n cn cc) (hE : ∀ c, c < 6 → ab (M.2.2 (6 + i) c).toInt ≤ 59) (hb : b < cn) {yb : Int64} (hyb : yb.toInt = WR cc n M b) : ∀ (d g fuel : Nat), g + d = cn → d < fuel →
    ∃ r, lpT (fun _ _ _ _ _ => none) (F_X2_isSharpInBest_17 N) fuel (nI i) (12 + b) yb (nI g) M = some (r, M) ∧ (r = 0 ∨ r = 1) ∧ (r = 1 ↔ ∀ g', g ≤ g' → g' < cn → isB cc n M b g' → exc M i (12 + g') = 0) := by
  have hc := h.2.2.2.1
  intro d
  induction d with
  | zero =>
    intro g fuel hg hf
    obtain ⟨x, rfl, -⟩ := fuel_s hf
    refine ⟨1, ?_, Or.inr rfl, ⟨fun _ g' a b _ => by omega, fun _ => rfl⟩⟩
    rw [lp_s]
    generalize lpT (fun _ _ _ _ _ => none) (F_X2_isSharpInBest_17 N) x = q
    unfold F_X2_isSharpInBest_17
    rw [h.2.2.1, if_pos ((nI_leI (by omega) (by omega)).mpr (by omega))]
  | succ d ih =>
    intro g fuel hg hf
    obtain ⟨x, rfl, hx⟩ := fuel_s hf
    obtain ⟨r, i1, i2, i3⟩ := ih (g + 1) x (by omega) hx
    have hg' : g < cn := by omega
    obtain ⟨y, y1, y2⟩ := wth_r hN h hg'
    obtain ⟨z, z1, z2⟩ := exc_s (N := N) (i := i) (κ := 12 + g) (M := M) hN hi (lnR (by omega) (by omega)) hE (fun c hc6 => h.r hg' hc6)
    have b1 := mulle (WR_b h hg') (h.r hb (c := 0) (by decide))
    have b2 := mulle (WR_b h hb) (h.r hg' (c := 0) (by decide))
    rw [← y2] at b1
    rw [← hyb] at b2
    have go : (isB cc n M b g → exc M i (12 + g) = 0) → (r = 1 ↔ ∀ g', g ≤ g' → g' < cn → isB cc n M b g' → exc M i (12 + g') = 0) := fun hno => i3.trans ⟨fun H g' a b c => by
      by_cases e : g' = g
      · rw [e] at c ⊢; exact hno c
      · exact H g' (by omega) b c, fun H g' a b c => H g' (by omega) b c⟩
    rw [lp_s]
    generalize lpT (fun _ _ _ _ _ => none) (F_X2_isSharpInBest_17 N) x = q at i1 ⊢
    unfold F_X2_isSharpInBest_17
    rw [h.2.2.1, if_neg (fun q => by have := (nI_leI (by omega) (by omega)).mp q; omega), rO2 (by omega), Option.bind_some, rR1 (by omega), Option.bind_some]
    by_cases e1 : RY M g 1 = 0
    · rw [if_pos (cmp_eq.mpr (by rw [l0]; exact e1)), y1, Option.bind_some]
      dsimp only
      rw [rR0 (by omega), Option.bind_some, rR0 (by omega), Option.bind_some]
      have m1 : (y * M.2.2 (12 + b) 0).toInt = WR cc n M g * RY M b 0 := by rw [Kit.i64_mul (by omega) (by omega), y2]; rfl
      have m2 : (yb * M.2.2 (12 + g) 0).toInt = WR cc n M b * RY M g 0 := by rw [Kit.i64_mul (by omega) (by omega), hyb]; rfl
      by_cases e2 : WR cc n M g * RY M b 0 = WR cc n M b * RY M g 0
      · rw [if_pos (cmp_eq.mpr (by rw [m1, m2]; exact e2))]
        unfold b_X2_isSharpInBest_78
        rw [if_neg (by decide), z1, Option.bind_some]
        dsimp only
        by_cases e3 : exc M i (12 + g) = 0
        · rw [if_pos (cmp_eq.mpr (by rw [z2, l0]; exact e3)), nI_1]
          exact ⟨r, i1, i2, go (fun _ => e3)⟩
        · rw [if_neg (fun q => e3 (by have := cmp_eq.mp q; rw [z2, l0] at this; exact this))]
          exact ⟨0, rfl, Or.inl rfl, ⟨fun q => absurd q (by decide), fun H => absurd (H g (Nat.le_refl _) hg' ⟨e1, e2⟩) e3⟩⟩
      · rw [if_neg (fun q => e2 (by have := cmp_eq.mp q; rw [m1, m2] at this; exact this))]
        unfold b_X2_isSharpInBest_77 b_X2_isSharpInBest_78
        rw [if_pos rfl, nI_1]
        exact ⟨r, i1, i2, go (fun q => absurd q.2 e2)⟩
    · rw [if_neg (fun q => e1 (by have := cmp_eq.mp q; rw [l0] at this; exact this))]
      unfold b_X2_isSharpInBest_77 b_X2_isSharpInBest_78
      rw [if_pos rfl, nI_1]
      exact ⟨r, i1, i2, go (fun q => absurd q.1 e1)⟩
theorem shrp_s {N i : Nat} (hN : 200 ≤ N) (hi : i < 3) (h : CX M n cn cc) (hE : ∀ c, c < 6 → ab (M.2.2 (6 + i) c).toInt ≤ 59) (hx : ∃ g, g < cn ∧ isP M g) : ∃ b r, f_X2_isSharpInBest N (nI i) M = some (r, M) ∧ (r = 0 ∨ r = 1) ∧ b < cn ∧ isP M b ∧ (∀ g, g < cn → isP M g → ¬ ltB cc n M g b) ∧ (r = 1 ↔ ∀ g', g' < cn → isB cc n M b g' → exc M i (12 + g') = 0) := by
  have hc := h.2.2.2.1
  obtain ⟨b, b1, b2, b3, b4⟩ := best_s hN h hx
  obtain ⟨y, y1, y2⟩ := wth_r (N := N) (by omega) h b2
  obtain ⟨r, a, a2, c⟩ := shrp_loop (N := N) (by omega) hi h hE b2 y2 cn 0 N (by omega) (by omega)
  refine ⟨b, r, ?_, a2, b2, b3, b4, c.trans ⟨fun H g' x y => H g' (Nat.zero_le _) x y, fun H g' _ x y => H g' x y⟩⟩
  unfold f_X2_isSharpInBest b_X2_isSharpInBest_0
  rw [b1, Option.bind_some]
  dsimp only
  rw [y1, Option.bind_some]
  exact a
end Ca
