section Mq
variable {n w f : Nat} {cc : Nat → Int}
/-- what the walk of the reference reads -/
def MY (M : Mm) (n w f : Nat) (cc : Nat → Int) : Prop := MX M n w f cc 4374 802400 ∧ n < w ∧ ∀ k, k < f → MA M k n ≤ MB M k
theorem MY.po {M : Mm} (h : MY M n w f cc) {k : Nat} (hk : k < f) : 0 < MB M k := (h.1.2.2.2.2.2.2.2 k hk).1
theorem latm_tr {M : Mm} (h : MY M n w f cc) (a b c : Nat) (ha : a < f) (hb : b < f) (hc : c < f) (x : latm n M a b) (y : latm n M b c) : latm n M a c := q_lt_le (h.po hc) (h.po hb) (h.po ha) y (Int.le_of_lt x)
theorem latm_ir {M : Mm} (a : Nat) : ¬ latm n M a a := fun q => by unfold latm at q; omega
theorem dSm_po {M : Mm} (h : MY M n w f cc) {p g : Nat} (hg : g < f) (hl : latm n M g p) : PO (dSm n M p g) 2 := fun j _ => by
  unfold dSm
  split
  · unfold latm at hl; omega
  · exact h.po hg
theorem ltSm_tr {M : Mm} (h : MY M n w f cc) {p : Nat} (a b c : Nat) (pa : a < f ∧ latm n M a p) (pb : b < f ∧ latm n M b p) (pc : c < f ∧ latm n M c p) (x : ltSm n M p a b) (y : ltSm n M p b c) : ltSm n M p a c := lx_tr (n := 2) (dSm_po h pa.1 pa.2) (dSm_po h pb.1 pb.2) (dSm_po h pc.1 pc.2) 2 0 (by omega) x y
theorem m1_lt : (-1 : Int32) < 0 := by decide
theorem next_loop {N p : Nat} {M : Mm} (h : MY M n w f cc) (hp : p < f) (k103 : Int32 → Mm → Option Mm) : ∀ (d k fuel : Nat) (x : Int32), k + d = f → d < fuel → AMo (fun g => g < f ∧ latm n M g p) (ltSm n M p) f x k →
    ∃ r, lpT (fun _ _ _ _ => none) (F_X3_findCorners_132 N k103) fuel (nI p) x (nI k) M = k103 r M ∧ AMo (fun g => g < f ∧ latm n M g p) (ltSm n M p) f r f := by
  have hf := h.1.2.2.2.2.2.1
  have ir : ∀ g, ¬ ltSm n M p g g := fun g => lx_ir 2 0
  intro d
  induction d with
  | zero =>
    intro k fuel x hk hfu hA
    obtain ⟨y, rfl, -⟩ := fuel_s hfu
    refine ⟨x, ?_, by rw [show k = f by omega] at hA; exact hA⟩
    rw [lp_s]
    generalize lpT (fun _ _ _ _ => none) (F_X3_findCorners_132 N k103) y = q
    unfold F_X3_findCorners_132
    rw [h.1.2.2.2.2.1, if_pos ((nI_leI (by omega) (by omega)).mpr (by omega))]
  | succ d ih =>
    intro k fuel x hk hfu hA
    obtain ⟨y, rfl, hy⟩ := fuel_s hfu
    have step : ∀ x', AMo (fun g => g < f ∧ latm n M g p) (ltSm n M p) f x' (k + 1) → ∃ r, lpT (fun _ _ _ _ => none) (F_X3_findCorners_132 N k103) y (nI p) x' (nI (k + 1)) M = k103 r M ∧ AMo (fun g => g < f ∧ latm n M g p) (ltSm n M p) f r f := fun x' h1 => ih (k + 1) y x' (by omega) hy h1
    have hkf : k < f := by omega
    rw [lp_s]
    generalize lpT (fun _ _ _ _ => none) (F_X3_findCorners_132 N k103) y = q at step ⊢
    unfold F_X3_findCorners_132
    rw [h.1.2.2.2.2.1, if_neg (fun q => by have := (nI_leI (by omega) (by omega)).mp q; omega), mlat h.1 h.2.1 hkf hp, Option.bind_some]
    dsimp only
    by_cases lt : latm n M k p
    · rw [if_neg (fun q => by have := cmpI_le.mp q; unfold latm at lt; omega)]
      unfold b_X3_findCorners_156
      rw [if_neg (by decide)]
      rcases hA with ⟨rfl, h2⟩ | ⟨a, h0, rfl, h2, h3⟩
      · rw [if_pos m1_lt, nI_1]
        exact step _ (AMo.first ir hkf ⟨hkf, lt⟩ h2)
      · rw [if_neg (nI_pos (by omega))]
        obtain ⟨r, r1, r2, r3⟩ := mstp (N := N) h.1 h.2.1 h.2.2 hp hkf h0
        rw [r1, Option.bind_some]
        dsimp only
        rw [nI_1]
        rcases r2 with rfl | rfl
        · rw [if_pos rfl]
          exact step _ (AMo.keep h0 h2 (fun q => absurd (r3.mpr q) (by decide)) h3)
        · rw [if_neg (by decide)]
          exact step _ (AMo.take ir (ltSm_tr h) hkf h2 ⟨hkf, lt⟩ (r3.mp rfl) h3)
    · rw [if_pos (cmpI_le.mpr (by unfold latm at lt; omega))]
      unfold b_X3_findCorners_156
      rw [if_pos rfl, nI_1]
      exact step x (hA.no (fun q => lt q.2))
/-- the reference's memory behind a step of the walk -/
def stM (M : Mm) (c : Nat) (x : Int32) : Mm := wI (sA M 14 c x) 10 (nI (c + 1))
theorem MY.st {M : Mm} (h : MY M n w f cc) (c : Nat) (x : Int32) : MY (stM M c x) n w f cc := by
  obtain ⟨⟨h1, h2, h3, h4, h5, h6, h7, h8⟩, h9, h10⟩ := h
  refine ⟨⟨h1, h2, h3, ?_, ?_, h6, h7, h8⟩, h9, h10⟩
  · show upd M.1 10 (nI (c + 1)) 4 = _
    rw [pk_un (by decide)]; exact h4
  · show upd M.1 10 (nI (c + 1)) 9 = _
    rw [pk_un (by decide)]; exact h5
theorem lnA14 : lnA 14 = 130 := by decide
theorem corn_loop {N : Nat} (hN : 200 ≤ N) : ∀ (d c fuel : Nat) (M : Mm) (s : Nat → Nat) (x : Int32), MY M n w f cc → c + d = f → d < fuel → M.1 10 = nI c → CHP (fun k => k < f) (ltEm n M) (latm n M) (ltSm n M) f c s → NXT (fun k => k < f) (ltEm n M) (latm n M) (ltSm n M) f c s x → (∀ i, i < c → M.2.1 14 i = nI (s i)) →
    ∃ c' s' M', lpT (fun _ _ => none) (F_X3_findCorners_103 N) fuel x M = some M' ∧ M'.1 10 = nI c' ∧ (∀ k, k ≠ 10 → M'.1 k = M.1 k) ∧ M'.2.2 = M.2.2 ∧ (∀ k, k ≠ 14 → M'.2.1 k = M.2.1 k) ∧ CHW (fun k => k < f) (ltEm n M) (latm n M) (ltSm n M) f c' s' ∧ c' ≤ f ∧ ∀ i, i < c' → M'.2.1 14 i = nI (s' i) := by
  intro d
  induction d with
  | zero =>
    intro c fuel M s x h hcd hfu h10 hC hX hb
    have hf := h.1.2.2.2.2.2.1
    obtain ⟨y, rfl, -⟩ := fuel_s hfu
    have hx : x = -1 := Classical.byContradiction (fun hne => by
      have : ∃ a, (c = 0 ∧ LE (fun k => k < f) (ltEm n M) f a) ∨ (0 < c ∧ LE (fun g => g < f ∧ latm n M g (s (c - 1))) (ltSm n M (s (c - 1))) f a) := by
        rcases hX with ⟨h0, hX⟩ | ⟨h0, hX⟩
        · rcases hX with ⟨e, -⟩ | ⟨a, h1, h2, h3, h4⟩
          · exact absurd e hne
          · exact ⟨a, Or.inl ⟨h0, h1, h3, h4⟩⟩
        · rcases hX with ⟨e, -⟩ | ⟨a, h1, h2, h3, h4⟩
          · exact absurd e hne
          · exact ⟨a, Or.inr ⟨h0, h1, h3, h4⟩⟩
      obtain ⟨a, ha⟩ := this
      have := (NXT.some hC ha).le (latm_tr h) latm_ir
      omega)
    subst hx
    refine ⟨c, s, M, ?_, h10, fun _ _ => rfl, rfl, fun _ _ => rfl, NXT.none hf hC hX, by omega, hb⟩
    rw [lp_s]
    generalize lpT (fun _ _ => none) (F_X3_findCorners_103 N) y = q
    unfold F_X3_findCorners_103
    rw [if_pos m1_lt]
  | succ d ih =>
    intro c fuel M s x h hcd hfu h10 hC hX hb
    have hf := h.1.2.2.2.2.2.1
    obtain ⟨y, rfl, hy⟩ := fuel_s hfu
    by_cases hx : x = -1
    · subst hx
      refine ⟨c, s, M, ?_, h10, fun _ _ => rfl, rfl, fun _ _ => rfl, NXT.none hf hC hX, by omega, hb⟩
      rw [lp_s]
      generalize lpT (fun _ _ => none) (F_X3_findCorners_103 N) y = q
      unfold F_X3_findCorners_103
      rw [if_pos m1_lt]
    · have : ∃ a, x = nI a ∧ ((c = 0 ∧ LE (fun k => k < f) (ltEm n M) f a) ∨ (0 < c ∧ LE (fun g => g < f ∧ latm n M g (s (c - 1))) (ltSm n M (s (c - 1))) f a)) := by
        rcases hX with ⟨h0, hX⟩ | ⟨h0, hX⟩
        · rcases hX with ⟨e, -⟩ | ⟨a, h1, h2, h3, h4⟩
          · exact absurd e hx
          · exact ⟨a, h2, Or.inl ⟨h0, h1, h3, h4⟩⟩
        · rcases hX with ⟨e, -⟩ | ⟨a, h1, h2, h3, h4⟩
          · exact absurd e hx
          · exact ⟨a, h2, Or.inr ⟨h0, h1, h3, h4⟩⟩
      obtain ⟨a, rfl, ha⟩ := this
      have hC' := NXT.some hC ha
      have hle := hC'.le (latm_tr h) latm_ir
      have ac : a < f := by
        rcases ha with ⟨-, q⟩ | ⟨-, q⟩
        · exact q.1
        · exact q.1
      obtain ⟨r, r1, r2⟩ := next_loop (N := N) (h.st c (nI a)) ac (lpT (fun _ _ => none) (F_X3_findCorners_103 N) y) f 0 N (-1) (by omega) (by omega) (Or.inl ⟨rfl, fun g' hg => by omega⟩)
      obtain ⟨c', s', M', i1, i2, i3, i4, i5, i6, i7, i8⟩ := ih (c + 1) y (stM M c (nI a)) (fun i => if i = c then a else s i) r (h.st c (nI a)) (by omega) hy (pk_us (f := M.1) (k := 10)) hC' (Or.inr ⟨by omega, by
        show AMo (fun g => g < f ∧ latm n M g (if c + 1 - 1 = c then a else _)) (ltSm n M (if c + 1 - 1 = c then a else _)) f r f
        rw [if_pos (by omega)]
        exact r2⟩) (fun i hi => by
        show (sA M 14 c (nI a)).2.1 14 i = _
        rw [sA_at]
        show _ = nI (if i = c then a else s i)
        by_cases e : i = c
        · rw [if_pos ⟨rfl, e⟩, if_pos e]
        · rw [if_neg (fun q => e q.2), if_neg e]; exact hb i (by omega))
      refine ⟨c', s', M', ?_, i2, fun k hk => (i3 k hk).trans (pk_un hk), i4, fun k hk => (i5 k hk).trans (sA_ne hk), i6, i7, i8⟩
      rw [← i1, ← r1, lp_s]
      generalize lpT (fun _ _ => none) (F_X3_findCorners_103 N) y = q
      unfold F_X3_findCorners_103
      rw [if_neg (nI_pos (by omega)), h10, wA_i (by rw [lnA14]; omega), Option.bind_some]
      show b_X3_findCorners_132 N q (nI a) (-1) 0 (wI (sA M 14 c (nI a)) 10 (M.1 10 + 1)) = _
      rw [h10, nI_1]
      rfl
theorem first_loop {N : Nat} {M : Mm} (h : MY M n w f cc) : ∀ (d k at_ fuel : Nat), k + d = f → d < fuel → at_ < f → AM (fun k => k < f) (ltEm n M) at_ k →
    ∃ a, lpT (fun _ _ _ => none) (F_X3_findCorners_35 N) fuel (nI at_) (nI k) M = b_X3_findCorners_103 N (nI a) M ∧ a < f ∧ AM (fun k => k < f) (ltEm n M) a f := by
  have hf := h.1.2.2.2.2.2.1
  have po : ∀ k, k < f → PO (dBm M k) 2 := fun k hk _ _ => h.po hk
  have tr : ∀ a b c, a < f → b < f → c < f → ltEm n M a b → ltEm n M b c → ltEm n M a c := fun a b c pa pb pc x y => lx_tr (n := 2) (po a pa) (po b pb) (po c pc) 2 0 (by omega) x y
  have ir : ∀ g, ¬ ltEm n M g g := fun g => lx_ir 2 0
  intro d
  induction d with
  | zero =>
    intro k at_ fuel hk hfu ha hA
    obtain ⟨x, rfl, -⟩ := fuel_s hfu
    refine ⟨at_, ?_, ha, by rw [show k = f by omega] at hA; exact hA⟩
    rw [lp_s]
    generalize lpT (fun _ _ _ => none) (F_X3_findCorners_35 N) x = q
    unfold F_X3_findCorners_35
    rw [h.1.2.2.2.2.1, if_pos ((nI_leI (by omega) (by omega)).mpr (by omega))]
  | succ d ih =>
    intro k at_ fuel hk hfu ha hA
    obtain ⟨x, rfl, hx⟩ := fuel_s hfu
    have hkf : k < f := by omega
    have step : ∀ at', at' < f → AM (fun k => k < f) (ltEm n M) at' (k + 1) → ∃ a, lpT (fun _ _ _ => none) (F_X3_findCorners_35 N) x (nI at') (nI (k + 1)) M = b_X3_findCorners_103 N (nI a) M ∧ a < f ∧ AM (fun k => k < f) (ltEm n M) a f := fun at' h1 h2 => ih (k + 1) at' x (by omega) hx h1 h2
    have b1 := mulle (h.1.Wb hkf) (h.1.D ha)
    have b2 := mulle (h.1.Wb ha) (h.1.D hkf)
    have hL : ltEm n M k at_ ↔ (MA M k n * MB M at_ < MA M at_ n * MB M k ∨ (MA M k n * MB M at_ = MA M at_ n * MB M k ∧ MW M at_ * MB M k < MW M k * MB M at_)) := by
      have e3 : kEm n M k 1 * dBm M at_ 1 = - (MW M k * MB M at_) := Int.neg_mul _ _
      have e4 : kEm n M at_ 1 * dBm M k 1 = - (MW M at_ * MB M k) := Int.neg_mul _ _
      constructor
      · intro q
        rcases q with q | ⟨q, q'⟩
        · exact Or.inl q
        · rcases q' with q' | ⟨-, q'⟩
          · have : kEm n M k 1 * dBm M at_ 1 < kEm n M at_ 1 * dBm M k 1 := q'
            exact Or.inr ⟨q, by omega⟩
          · exact q'.elim
      · intro q
        rcases q with q | ⟨q, q'⟩
        · exact Or.inl q
        · refine Or.inr ⟨q, Or.inl ?_⟩
          show kEm n M k 1 * dBm M at_ 1 < kEm n M at_ 1 * dBm M k 1
          omega
    rw [lp_s]
    generalize lpT (fun _ _ _ => none) (F_X3_findCorners_35 N) x = q at step ⊢
    unfold F_X3_findCorners_35
    rw [h.1.2.2.2.2.1, if_neg (fun q => by have := (nI_leI (by omega) (by omega)).mp q; omega), mlat h.1 h.2.1 hkf ha, Option.bind_some]
    dsimp only
    by_cases l : MA M k n * MB M at_ < MA M at_ n * MB M k
    · rw [if_pos (cmpI_lt.mpr l), nI_1]
      exact step k hkf (hA.take ir tr ha hkf (hL.mpr (Or.inl l)))
    · rw [if_neg (fun q => l (cmpI_lt.mp q))]
      by_cases e : MA M k n * MB M at_ = MA M at_ n * MB M k
      · rw [if_pos (cmpI_0.mpr e), rM4 (by omega), Option.bind_some, rM3 (by omega), Option.bind_some, rM4 (by omega), Option.bind_some, rM3 (by omega), Option.bind_some, mcmp (by unfold MW MB at b1; omega) (by unfold MW MB at b2; omega), Option.bind_some]
        dsimp only
        rw [nI_1]
        show ∃ a, (if cmpI (MW M k * MB M at_) (MW M at_ * MB M k) ≤ 0 then _ else _) = _ ∧ _
        by_cases g : MW M k * MB M at_ ≤ MW M at_ * MB M k
        · rw [if_pos (cmpI_le.mpr g)]
          exact step at_ ha (hA.keep ha (fun q => by rcases hL.mp q with q | ⟨-, q⟩ <;> omega))
        · rw [if_neg (fun q => g (cmpI_le.mp q))]
          exact step k hkf (hA.take ir tr ha hkf (hL.mpr (Or.inr ⟨e, by omega⟩)))
      · rw [if_neg (fun q => e (cmpI_0.mp q)), nI_1]
        exact step at_ ha (hA.keep ha (fun q => by rcases hL.mp q with q | ⟨q, -⟩ <;> omega))
end Mq
