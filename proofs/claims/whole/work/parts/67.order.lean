/-! FRACTIONS IN ORDER: numbers above positive numbers, compared key by key -/
theorem q_tr {a b c d x y : Int} (hb : 0 < b) (hd : 0 < d) (hy : 0 < y) (h1 : a * d ≤ c * b) (h2 : c * y ≤ x * d) : a * y ≤ x * b := by
  have e1 : a * d * y ≤ c * b * y := Int.mul_le_mul_of_nonneg_right h1 (Int.le_of_lt hy)
  have e2 : c * y * b ≤ x * d * b := Int.mul_le_mul_of_nonneg_right h2 (Int.le_of_lt hb)
  have e3 : a * y * d ≤ x * b * d := by
    have p1 : a * d * y = a * y * d := by grind
    have p2 : c * b * y = c * y * b := by grind
    have p3 : x * d * b = x * b * d := by grind
    omega
  exact Int.le_of_mul_le_mul_right e3 hd
theorem q_lt_le {a b c d x y : Int} (hb : 0 < b) (hd : 0 < d) (hy : 0 < y) (h1 : a * d < c * b) (h2 : c * y ≤ x * d) : a * y < x * b :=
  Int.not_le.mp (fun h => by have := q_tr hd hy hb h2 h; omega)
theorem q_le_lt {a b c d x y : Int} (hb : 0 < b) (hd : 0 < d) (hy : 0 < y) (h1 : a * d ≤ c * b) (h2 : c * y < x * d) : a * y < x * b :=
  Int.not_le.mp (fun h => by have := q_tr hy hb hd h h1; omega)
theorem q_eq {a b c d x y : Int} (hb : 0 < b) (hd : 0 < d) (hy : 0 < y) (h1 : a * d = c * b) (h2 : c * y = x * d) : a * y = x * b := by
  have e1 := q_tr hb hd hy (Int.le_of_eq h1) (Int.le_of_eq h2)
  have e2 := q_tr hy hd hb (Int.le_of_eq h2.symm) (Int.le_of_eq h1.symm)
  omega
/-- a thing with keys: number and positive number below it -/
def LX (κ δ κ' δ' : Nat → Int) : Nat → Nat → Prop
  | 0, _ => False
  | d + 1, j => κ j * δ' j < κ' j * δ j ∨ (κ j * δ' j = κ' j * δ j ∧ LX κ δ κ' δ' d (j + 1))
def EQ (κ δ κ' δ' : Nat → Int) (n : Nat) : Prop := ∀ j, j < n → κ j * δ' j = κ' j * δ j
def PO (δ : Nat → Int) (n : Nat) : Prop := ∀ j, j < n → 0 < δ j
theorem EQ.sy {κ δ κ' δ' : Nat → Int} {n : Nat} (h : EQ κ δ κ' δ' n) : EQ κ' δ' κ δ n := fun j hj => (h j hj).symm
theorem EQ.tr {κ δ κ' δ' κ2 δ2 : Nat → Int} {n : Nat} (p : PO δ n) (p' : PO δ' n) (p2 : PO δ2 n) (h : EQ κ δ κ' δ' n) (h2 : EQ κ' δ' κ2 δ2 n) : EQ κ δ κ2 δ2 n := fun j hj => q_eq (p j hj) (p' j hj) (p2 j hj) (h j hj) (h2 j hj)
section Lx
variable {κ δ κ' δ' κ2 δ2 : Nat → Int} {n : Nat}
theorem lx_tot : ∀ (d j : Nat), j + d = n → ¬ LX κ δ κ' δ' d j → ¬ LX κ' δ' κ δ d j → ∀ i, j ≤ i → i < n → κ i * δ' i = κ' i * δ i
  | 0, j, h, _, _, i, h1, h2 => by omega
  | d + 1, j, h, a, b, i, h1, h2 => by
    have e : κ j * δ' j = κ' j * δ j := by
      have n1 : ¬ κ j * δ' j < κ' j * δ j := fun q => a (Or.inl q)
      have n2 : ¬ κ' j * δ j < κ j * δ' j := fun q => b (Or.inl q)
      omega
    by_cases ij : i = j
    · rw [ij]; exact e
    · exact lx_tot d (j + 1) (by omega) (fun q => a (Or.inr ⟨e, q⟩)) (fun q => b (Or.inr ⟨e.symm, q⟩)) i (by omega) h2
theorem lx_cgL (p : PO δ n) (p' : PO δ' n) (p2 : PO δ2 n) (h : EQ κ δ κ' δ' n) : ∀ (d j : Nat), j + d = n → LX κ δ κ2 δ2 d j → LX κ' δ' κ2 δ2 d j
  | 0, _, _, q => q
  | d + 1, j, hj, q => by
    have e := h j (by omega)
    rcases q with q | ⟨q1, q2⟩
    · exact Or.inl (q_le_lt (p' j (by omega)) (p j (by omega)) (p2 j (by omega)) (Int.le_of_eq e.symm) q)
    · exact Or.inr ⟨q_eq (p' j (by omega)) (p j (by omega)) (p2 j (by omega)) e.symm q1, lx_cgL p p' p2 h d (j + 1) (by omega) q2⟩
theorem lx_cgR (p : PO δ n) (p' : PO δ' n) (p2 : PO δ2 n) (h : EQ κ δ κ' δ' n) : ∀ (d j : Nat), j + d = n → LX κ2 δ2 κ δ d j → LX κ2 δ2 κ' δ' d j
  | 0, _, _, q => q
  | d + 1, j, hj, q => by
    have e := h j (by omega)
    rcases q with q | ⟨q1, q2⟩
    · exact Or.inl (q_lt_le (p2 j (by omega)) (p j (by omega)) (p' j (by omega)) q (Int.le_of_eq e))
    · exact Or.inr ⟨q_eq (p2 j (by omega)) (p j (by omega)) (p' j (by omega)) q1 e, lx_cgR p p' p2 h d (j + 1) (by omega) q2⟩
theorem lx_tr (p : PO δ n) (p' : PO δ' n) (p2 : PO δ2 n) : ∀ (d j : Nat), j + d = n → LX κ δ κ' δ' d j → LX κ' δ' κ2 δ2 d j → LX κ δ κ2 δ2 d j
  | 0, _, _, q, _ => q
  | d + 1, j, hj, q, r => by
    have a := p j (by omega)
    have b := p' j (by omega)
    have c := p2 j (by omega)
    rcases q with q | ⟨q1, q2⟩
    · rcases r with r | ⟨r1, r2⟩
      · exact Or.inl (q_lt_le a b c q (Int.le_of_lt r))
      · exact Or.inl (q_lt_le a b c q (Int.le_of_eq r1))
    · rcases r with r | ⟨r1, r2⟩
      · exact Or.inl (q_le_lt a b c (Int.le_of_eq q1) r)
      · exact Or.inr ⟨q_eq a b c q1 r1, lx_tr p p' p2 d (j + 1) (by omega) q2 r2⟩
theorem lx_ir : ∀ (d j : Nat), ¬ LX κ δ κ δ d j
  | 0, _, q => q
  | d + 1, j, q => by
    rcases q with q | ⟨-, q⟩
    · omega
    · exact lx_ir d (j + 1) q
end Lx
/-- two families of the same things: their least ones are the same -/
theorem lx_match {n : Nat} {P Q : Nat → Prop} {κ δ κ' δ' : Nat → Nat → Int} (hp : ∀ g, P g → PO (δ g) n) (hq : ∀ k, Q k → PO (δ' k) n) (m1 : ∀ g, P g → ∃ k, Q k ∧ EQ (κ g) (δ g) (κ' k) (δ' k) n) (m2 : ∀ k, Q k → ∃ g, P g ∧ EQ (κ g) (δ g) (κ' k) (δ' k) n) {g0 k0 : Nat} (hg : P g0) (hk : Q k0) (lg : ∀ g, P g → ¬ LX (κ g) (δ g) (κ g0) (δ g0) n 0) (lk : ∀ k, Q k → ¬ LX (κ' k) (δ' k) (κ' k0) (δ' k0) n 0) : EQ (κ g0) (δ g0) (κ' k0) (δ' k0) n := by
  obtain ⟨k1, a1, a2⟩ := m1 g0 hg
  obtain ⟨g1, b1, b2⟩ := m2 k0 hk
  intro j hj
  refine lx_tot n 0 (by omega) (fun q => lk k1 a1 ?_) (fun q => lg g1 b1 ?_) j (Nat.zero_le _) hj
  · exact lx_cgL (hp g0 hg) (hq k1 a1) (hq k0 hk) a2 n 0 (by omega) q
  · exact lx_cgL (hq k0 hk) (hp g1 b1) (hp g0 hg) b2.sy n 0 (by omega) q
/-- the least one of those below g that are P, if there is one -/
def AM (P : Nat → Prop) (lt : Nat → Nat → Prop) (at_ g : Nat) : Prop := (P at_ ∧ ∀ g', g' < g → P g' → ¬ lt g' at_) ∨ (¬ P at_ ∧ ∀ g', g' < g → ¬ P g')
theorem AM.no {P : Nat → Prop} {lt : Nat → Nat → Prop} {at_ g : Nat} (h : AM P lt at_ g) (hn : ¬ P g) : AM P lt at_ (g + 1) := by
  rcases h with ⟨h1, h2⟩ | ⟨h1, h2⟩
  · exact Or.inl ⟨h1, fun g' hg p => by
      by_cases e : g' = g
      · subst e; exact absurd p hn
      · exact h2 g' (by omega) p⟩
  · exact Or.inr ⟨h1, fun g' hg p => by
      by_cases e : g' = g
      · subst e; exact absurd p hn
      · exact h2 g' (by omega) p⟩
theorem AM.first {P : Nat → Prop} {lt : Nat → Nat → Prop} (ir : ∀ g, ¬ lt g g) {at_ g : Nat} (h : AM P lt at_ g) (hn : ¬ P at_) (hp : P g) : AM P lt g (g + 1) := by
  rcases h with ⟨h1, h2⟩ | ⟨h1, h2⟩
  · exact absurd h1 hn
  · exact Or.inl ⟨hp, fun g' hg p => by
      by_cases e : g' = g
      · rw [e]; exact ir g
      · exact absurd p (h2 g' (by omega))⟩
theorem AM.take {P : Nat → Prop} {lt : Nat → Nat → Prop} (ir : ∀ g, ¬ lt g g) (tr : ∀ a b c, P a → P b → P c → lt a b → lt b c → lt a c) {at_ g : Nat} (h : AM P lt at_ g) (hp : P at_) (hg : P g) (hl : lt g at_) : AM P lt g (g + 1) := by
  rcases h with ⟨h1, h2⟩ | ⟨h1, h2⟩
  · exact Or.inl ⟨hg, fun g' hg' p => by
      by_cases e : g' = g
      · rw [e]; exact ir g
      · exact fun q => h2 g' (by omega) p (tr _ _ _ p hg hp q hl)⟩
  · exact absurd hp h1
theorem AM.keep {P : Nat → Prop} {lt : Nat → Nat → Prop} {at_ g : Nat} (h : AM P lt at_ g) (hp : P at_) (hl : ¬ lt g at_) : AM P lt at_ (g + 1) := by
  rcases h with ⟨h1, h2⟩ | ⟨h1, h2⟩
  · exact Or.inl ⟨h1, fun g' hg' p => by
      by_cases e : g' = g
      · rw [e]; exact hl
      · exact h2 g' (by omega) p⟩
  · exact absurd hp h1
