section Cb
variable {M : Mm} {n cn : Nat} {cc : Nat → Int}
def isM (M : Mm) (g : Nat) : Prop := 0 < DT M g
def lat (M : Mm) (g k : Nat) : Prop := RY M k 1 * DT M g < RY M g 1 * DT M k
def ltE (cc : Nat → Int) (n : Nat) (M : Mm) (g k : Nat) : Prop := LX (kE cc n M g) (dE M g) (kE cc n M k) (dE M k) 2 0
def ltS (cc : Nat → Int) (n : Nat) (M : Mm) (f g k : Nat) : Prop := LX (kS cc n M f g) (dS M f g) (kS cc n M f k) (dS M f k) 2 0
theorem isM_iff (h : CX M n cn cc) {g : Nat} (hg : g < cn) : isM M g ↔ ¬ (RY M g 0 = 0 ∧ RY M g 1 = 0) := by
  obtain ⟨a, -, b, -⟩ := h.s hg
  unfold isM DT
  constructor
  · intro q ⟨x, y⟩; omega
  · intro q
    by_cases e : RY M g 0 = 0
    · have : ¬ RY M g 1 = 0 := fun y => q ⟨e, y⟩
      omega
    · omega
theorem lat_tr (a b c : Nat) (ha : isM M a) (hb : isM M b) (hc : isM M c) (x : lat M a b) (y : lat M b c) : lat M a c := q_lt_le hc hb ha y (Int.le_of_lt x)
theorem lat_ir (a : Nat) : ¬ lat M a a := fun q => by unfold lat at q; omega
theorem ltE_tr (a b c : Nat) (pa : isM M a) (pb : isM M b) (pc : isM M c) (x : ltE cc n M a b) (y : ltE cc n M b c) : ltE cc n M a c := lx_tr (n := 2) (fun _ _ => pa) (fun _ _ => pb) (fun _ _ => pc) 2 0 (by omega) x y
theorem dS_po {f g : Nat} (hg : isM M g) (hl : lat M g f) : PO (dS M f g) 2 := fun j _ => by
  unfold dS
  split
  · unfold lat at hl; omega
  · exact hg
theorem ltS_tr {f : Nat} (a b c : Nat) (pa : isM M a ∧ lat M a f) (pb : isM M b ∧ lat M b f) (pc : isM M c ∧ lat M c f) (x : ltS cc n M f a b) (y : ltS cc n M f b c) : ltS cc n M f a c := lx_tr (n := 2) (dS_po pa.1 pa.2) (dS_po pb.1 pb.2) (dS_po pc.1 pc.2) 2 0 (by omega) x y
theorem earl_loop {N : Nat} (hN : 10 ≤ N) (h : CX M n cn cc) : ∀ (d g fuel : Nat) (x : Int32), g + d = cn → d < fuel → AMo (isM M) (ltE cc n M) cn x g →
    ∃ r, lpT (fun _ _ _ => none) (F_X2_earliestRay_4 N) fuel x (nI g) M = some (r, M) ∧ AMo (isM M) (ltE cc n M) cn r cn := by
  have hc := h.2.2.2.1
  have ir : ∀ g, ¬ ltE cc n M g g := fun g => lx_ir 2 0
  intro d
  induction d with
  | zero =>
    intro g fuel x hg hf hA
    obtain ⟨y, rfl, -⟩ := fuel_s hf
    refine ⟨x, ?_, by rw [show g = cn by omega] at hA; exact hA⟩
    rw [lp_s]
    generalize lpT (fun _ _ _ => none) (F_X2_earliestRay_4 N) y = q
    unfold F_X2_earliestRay_4
    rw [h.2.2.1, if_pos ((nI_leI (by omega) (by omega)).mpr (by omega))]
  | succ d ih =>
    intro g fuel x hg hf hA
    obtain ⟨y, rfl, hy⟩ := fuel_s hf
    have step : ∀ x', AMo (isM M) (ltE cc n M) cn x' (g + 1) → ∃ r, lpT (fun _ _ _ => none) (F_X2_earliestRay_4 N) y x' (nI (g + 1)) M = some (r, M) ∧ AMo (isM M) (ltE cc n M) cn r cn := fun x' h1 => ih (g + 1) y x' (by omega) hy h1
    have hgc : g < cn := by omega
    rw [lp_s]
    generalize lpT (fun _ _ _ => none) (F_X2_earliestRay_4 N) y = q at step ⊢
    unfold F_X2_earliestRay_4
    rw [h.2.2.1, if_neg (fun q => by have := (nI_leI (by omega) (by omega)).mp q; omega), rO2 (by omega), Option.bind_some, isDi (by omega), Option.bind_some]
    dsimp only
    by_cases pg : RY M g 0 = 0 ∧ RY M g 1 = 0
    · rw [if_pos pg, if_neg (by decide), nI_1]
      exact step x (hA.no (fun q => (isM_iff h hgc).mp q pg))
    · rw [if_neg pg, if_pos rfl]
      have hp : isM M g := (isM_iff h hgc).mpr pg
      rcases hA with ⟨rfl, h2⟩ | ⟨a, h0, rfl, h2, h3⟩
      · rw [if_pos rfl, nI_1]
        exact step _ (AMo.first ir hgc hp h2)
      · rw [if_neg (m1_ne (by omega)), Option.bind_some, rO2 (by omega), Option.bind_some]
        obtain ⟨r, r1, r2, r3⟩ := isEa hN h hgc h0
        rw [r1, Option.bind_some]
        dsimp only
        rw [nI_1]
        rcases r2 with rfl | rfl
        · rw [if_pos rfl]
          exact step _ (AMo.keep h0 h2 (fun q => absurd (r3.mpr q) (by decide)) h3)
        · rw [if_neg (by decide)]
          exact step _ (AMo.take ir ltE_tr hgc h2 hp (r3.mp rfl) h3)
theorem earl_s {N : Nat} (hN : 200 ≤ N) (h : CX M n cn cc) : ∃ r, f_X2_earliestRay N M = some (r, M) ∧ AMo (isM M) (ltE cc n M) cn r cn := by
  have hc := h.2.2.2.1
  exact earl_loop (N := N) (by omega) h cn 0 N (-1) (by omega) (by omega) (Or.inl ⟨rfl, fun g' hg => by omega⟩)
theorem lat_iff {g k : Nat} : lat M g k ↔ RY M k 1 * RY M g 0 < RY M g 1 * RY M k 0 := by
  have := tm_eq (RY M g 1) (RY M g 0) (RY M k 0) (RY M k 1)
  unfold lat DT
  omega
theorem foll_loop {N f : Nat} (hN : 10 ≤ N) (h : CX M n cn cc) (hf : f < cn) (hD : isM M f) : ∀ (d g fuel : Nat) (x : Int32), g + d = cn → d < fuel → AMo (fun g => isM M g ∧ lat M g f) (ltS cc n M f) cn x g →
    ∃ r, lpT (fun _ _ _ _ => none) (F_X2_followingRay_15 N) fuel (12 + f) x (nI g) M = some (r, M) ∧ AMo (fun g => isM M g ∧ lat M g f) (ltS cc n M f) cn r cn := by
  have hc := h.2.2.2.1
  have ir : ∀ g, ¬ ltS cc n M f g g := fun g => lx_ir 2 0
  intro d
  induction d with
  | zero =>
    intro g fuel x hg hfu hA
    obtain ⟨y, rfl, -⟩ := fuel_s hfu
    refine ⟨x, ?_, by rw [show g = cn by omega] at hA; exact hA⟩
    rw [lp_s]
    generalize lpT (fun _ _ _ _ => none) (F_X2_followingRay_15 N) y = q
    unfold F_X2_followingRay_15
    rw [h.2.2.1, if_pos ((nI_leI (by omega) (by omega)).mpr (by omega))]
  | succ d ih =>
    intro g fuel x hg hfu hA
    obtain ⟨y, rfl, hy⟩ := fuel_s hfu
    have step : ∀ x', AMo (fun g => isM M g ∧ lat M g f) (ltS cc n M f) cn x' (g + 1) → ∃ r, lpT (fun _ _ _ _ => none) (F_X2_followingRay_15 N) y (12 + f) x' (nI (g + 1)) M = some (r, M) ∧ AMo (fun g => isM M g ∧ lat M g f) (ltS cc n M f) cn r cn := fun x' h1 => ih (g + 1) y x' (by omega) hy h1
    have hgc : g < cn := by omega
    rw [lp_s]
    generalize lpT (fun _ _ _ _ => none) (F_X2_followingRay_15 N) y = q at step ⊢
    unfold F_X2_followingRay_15
    rw [h.2.2.1, if_neg (fun q => by have := (nI_leI (by omega) (by omega)).mp q; omega), rO2 (by omega), Option.bind_some, isDi (by omega), Option.bind_some]
    dsimp only
    by_cases pg : RY M g 0 = 0 ∧ RY M g 1 = 0
    · rw [if_pos pg, if_neg (by decide)]
      unfold b_X2_followingRay_60 b_X2_followingRay_61
      rw [if_pos rfl, nI_1]
      exact step x (hA.no (fun q => (isM_iff h hgc).mp q.1 pg))
    · rw [if_neg pg, if_pos rfl, cmpT h hgc hf, Option.bind_some]
      dsimp only
      have hp : isM M g := (isM_iff h hgc).mpr pg
      by_cases lt : lat M g f
      · rw [if_neg (fun q => by have := cmpI_le.mp q; have := lat_iff.mp lt; omega)]
        unfold b_X2_followingRay_61
        rw [if_neg (by decide)]
        rcases hA with ⟨rfl, h2⟩ | ⟨a, h0, rfl, h2, h3⟩
        · rw [if_pos rfl, nI_1]
          exact step _ (AMo.first ir hgc ⟨hp, lt⟩ h2)
        · rw [if_neg (m1_ne (by omega)), rO2 (by omega), Option.bind_some]
          obtain ⟨r, r1, r2, r3⟩ := isSt hN h hf hgc h0 hD
          rw [r1, Option.bind_some]
          dsimp only
          rw [nI_1]
          rcases r2 with rfl | rfl
          · rw [if_pos rfl]
            exact step _ (AMo.keep h0 h2 (fun q => absurd (r3.mpr q) (by decide)) h3)
          · rw [if_neg (by decide)]
            exact step _ (AMo.take ir ltS_tr hgc h2 ⟨hp, lt⟩ (r3.mp rfl) h3)
      · rw [if_pos (cmpI_le.mpr (by have : ¬ _ := fun q => lt (lat_iff.mpr q); omega))]
        unfold b_X2_followingRay_60 b_X2_followingRay_61
        rw [if_pos rfl, nI_1]
        exact step x (hA.no (fun q => lt q.2))
theorem foll_s {N f : Nat} (hN : 200 ≤ N) (h : CX M n cn cc) (hf : f < cn) (hD : isM M f) : ∃ r, f_X2_followingRay N (nI f) M = some (r, M) ∧ AMo (fun g => isM M g ∧ lat M g f) (ltS cc n M f) cn r cn := by
  have hc := h.2.2.2.1
  obtain ⟨r, a, b⟩ := foll_loop (N := N) (by omega) h hf hD cn 0 N (-1) (by omega) (by omega) (Or.inl ⟨rfl, fun g' hg => by omega⟩)
  refine ⟨r, ?_, b⟩
  unfold f_X2_followingRay b_X2_followingRay_0
  rw [rO2 (by omega), Option.bind_some]
  exact a
theorem CX.sA5 (h : CX M n cn cc) (i : Nat) (x : Int32) : CX (sA M 5 i x) n cn cc := by
  obtain ⟨h1, h2, h3, h4, h5, h6⟩ := h
  exact ⟨h1, h2, h3, h4, fun j hj => by rw [sA_ne (by decide)]; exact h5 j hj, h6⟩
theorem lnA5 : lnA 5 = 126 := by decide
theorem trac_loop {N : Nat} (hN : 200 ≤ N) : ∀ (d c fuel : Nat) (M : Mm) (s : Nat → Nat) (x : Int32), CX M n cn cc → c + d = cn → d < fuel → CHP (isM M) (ltE cc n M) (lat M) (ltS cc n M) cn c s → NXT (isM M) (ltE cc n M) (lat M) (ltS cc n M) cn c s x → (∀ i, i < c → M.2.1 5 i = nI (s i)) →
    ∃ c' s' M', lpT (fun _ _ _ => none) (F_X2_traceBends_34 N) fuel (nI c) x M = some (nI c', M') ∧ M'.1 = M.1 ∧ M'.2.2 = M.2.2 ∧ (∀ k, k ≠ 5 → M'.2.1 k = M.2.1 k) ∧ CHW (isM M) (ltE cc n M) (lat M) (ltS cc n M) cn c' s' ∧ c' ≤ cn ∧ ∀ i, i < c' → M'.2.1 5 i = nI (s' i) := by
  intro d
  induction d with
  | zero =>
    intro c fuel M s x h hcd hf hC hX hb
    have hc := h.2.2.2.1
    obtain ⟨y, rfl, -⟩ := fuel_s hf
    have hx : x = -1 := Classical.byContradiction (fun hne => by
      have : ∃ a, (c = 0 ∧ LE (isM M) (ltE cc n M) cn a) ∨ (0 < c ∧ LE (fun g => isM M g ∧ lat M g (s (c - 1))) (ltS cc n M (s (c - 1))) cn a) := by
        rcases hX with ⟨h0, hX⟩ | ⟨h0, hX⟩
        · rcases hX with ⟨e, -⟩ | ⟨a, h1, h2, h3, h4⟩
          · exact absurd e hne
          · exact ⟨a, Or.inl ⟨h0, h1, h3, h4⟩⟩
        · rcases hX with ⟨e, -⟩ | ⟨a, h1, h2, h3, h4⟩
          · exact absurd e hne
          · exact ⟨a, Or.inr ⟨h0, h1, h3, h4⟩⟩
      obtain ⟨a, ha⟩ := this
      have := (NXT.some hC ha).le lat_tr lat_ir
      omega)
    subst hx
    refine ⟨c, s, M, ?_, rfl, rfl, fun _ _ => rfl, NXT.none hc hC hX, by omega, hb⟩
    rw [lp_s]
    generalize lpT (fun _ _ _ => none) (F_X2_traceBends_34 N) y = q
    unfold F_X2_traceBends_34
    rw [if_pos (show (-1 : Int32) = -1 from rfl)]
    split <;> rfl
  | succ d ih =>
    intro c fuel M s x h hcd hf hC hX hb
    have hc := h.2.2.2.1
    obtain ⟨y, rfl, hy⟩ := fuel_s hf
    by_cases hx : x = -1
    · subst hx
      refine ⟨c, s, M, ?_, rfl, rfl, fun _ _ => rfl, NXT.none hc hC hX, by omega, hb⟩
      rw [lp_s]
      generalize lpT (fun _ _ _ => none) (F_X2_traceBends_34 N) y = q
      unfold F_X2_traceBends_34
      rw [if_pos (show (-1 : Int32) = -1 from rfl)]
      split <;> rfl
    · have : ∃ a, x = nI a ∧ ((c = 0 ∧ LE (isM M) (ltE cc n M) cn a) ∨ (0 < c ∧ LE (fun g => isM M g ∧ lat M g (s (c - 1))) (ltS cc n M (s (c - 1))) cn a)) := by
        rcases hX with ⟨h0, hX⟩ | ⟨h0, hX⟩
        · rcases hX with ⟨e, -⟩ | ⟨a, h1, h2, h3, h4⟩
          · exact absurd e hx
          · exact ⟨a, h2, Or.inl ⟨h0, h1, h3, h4⟩⟩
        · rcases hX with ⟨e, -⟩ | ⟨a, h1, h2, h3, h4⟩
          · exact absurd e hx
          · exact ⟨a, h2, Or.inr ⟨h0, h1, h3, h4⟩⟩
      obtain ⟨a, rfl, ha⟩ := this
      have hC' := NXT.some hC ha
      have hle := hC'.le lat_tr lat_ir
      obtain ⟨ac, aM⟩ : a < cn ∧ isM M a := by
        rcases ha with ⟨-, q⟩ | ⟨-, q⟩
        · exact ⟨q.1, q.2.1⟩
        · exact ⟨q.1, q.2.1.1⟩
      obtain ⟨r, r1, r2⟩ := foll_s (N := N) hN (h.sA5 c (nI a)) ac aM
      obtain ⟨c', s', M', i1, i2, i3, i4, i5, i6, i7⟩ := ih (c + 1) y (sA M 5 c (nI a)) (fun i => if i = c then a else s i) r (h.sA5 c (nI a)) (by omega) hy hC' (Or.inr ⟨by omega, by
        show AMo (fun g => isM M g ∧ lat M g (if c + 1 - 1 = c then a else _)) (ltS cc n M (if c + 1 - 1 = c then a else _)) cn r cn
        rw [if_pos (by omega)]
        exact r2⟩) (fun i hi => by
        rw [sA_at]
        show _ = nI (if i = c then a else s i)
        by_cases e : i = c
        · rw [if_pos ⟨rfl, e⟩, if_pos e]
        · rw [if_neg (fun q => e q.2), if_neg e]; exact hb i (by omega))
      refine ⟨c', s', M', ?_, i2, i3, fun k hk => (i4 k hk).trans (sA_ne hk), i5, i6, i7⟩
      rw [← i1, lp_s]
      generalize lpT (fun _ _ _ => none) (F_X2_traceBends_34 N) y = q
      unfold F_X2_traceBends_34
      rw [if_neg (fun q => by have := (nI_leI (a := 126) (b := c) (by decide) (by omega)).mp q; omega), if_neg hx, wA_i (by rw [lnA5]; omega), Option.bind_some, r1, Option.bind_some]
      dsimp only
      rw [nI_1]
end Cb
