/-! CHAINS: the walk from the first point always by the steepest way up -/
theorem pigeon : ∀ (cn c : Nat) (s : Nat → Nat), (∀ i, i < c → s i < cn) → (∀ i j, i < c → j < c → s i = s j → i = j) → c ≤ cn
  | 0, c, s, h, _ => Nat.le_of_not_lt (fun q => by have := h 0 q; omega)
  | cn + 1, c, s, h, hi => by
    by_cases hx : ∃ i, i < c ∧ s i = cn
    · obtain ⟨i, hic, he⟩ := hx
      have := pigeon cn (c - 1) (fun k => s (if k = i then c - 1 else k)) (fun k hk => by
        show s (if k = i then c - 1 else k) < cn
        have h1 : (if k = i then c - 1 else k) < c := by split <;> omega
        have h2 := h _ h1
        have h3 : s (if k = i then c - 1 else k) ≠ cn := fun q => by
          have := hi _ i h1 hic (q.trans he.symm)
          split at this <;> omega
        omega) (fun k l hk hl e => by
        have h1 : (if k = i then c - 1 else k) < c := by split <;> omega
        have h2 : (if l = i then c - 1 else l) < c := by split <;> omega
        have := hi _ _ h1 h2 e
        split at this <;> split at this <;> omega)
      omega
    · have := pigeon cn c s (fun i hic => by
        have := h i hic
        have h3 : s i ≠ cn := fun q => hx ⟨i, hic, q⟩
        omega) hi
      omega
/-- the least of those below cn that are P -/
def LE (P : Nat → Prop) (lt : Nat → Nat → Prop) (cn a : Nat) : Prop := a < cn ∧ P a ∧ ∀ g, g < cn → P g → ¬ lt g a
/-- the same, or none, as an int: -1 is none -/
def AMo (P : Nat → Prop) (lt : Nat → Nat → Prop) (cn : Nat) (x : Int32) (g : Nat) : Prop := (x = -1 ∧ ∀ g', g' < g → ¬ P g') ∨ ∃ a, a < cn ∧ x = nI a ∧ P a ∧ ∀ g', g' < g → P g' → ¬ lt g' a
theorem AMo.no {P : Nat → Prop} {lt : Nat → Nat → Prop} {cn g : Nat} {x : Int32} (h : AMo P lt cn x g) (hn : ¬ P g) : AMo P lt cn x (g + 1) := by
  rcases h with ⟨h1, h2⟩ | ⟨a, h0, h1, h2, h3⟩
  · exact Or.inl ⟨h1, fun g' hg p => by
      by_cases e : g' = g
      · rw [e] at p; exact hn p
      · exact h2 g' (by omega) p⟩
  · exact Or.inr ⟨a, h0, h1, h2, fun g' hg p => by
      by_cases e : g' = g
      · rw [e] at p; exact absurd p hn
      · exact h3 g' (by omega) p⟩
theorem AMo.first {P : Nat → Prop} {lt : Nat → Nat → Prop} (ir : ∀ g, ¬ lt g g) {cn g : Nat} (hg : g < cn) (hp : P g) (h : ∀ g', g' < g → ¬ P g') : AMo P lt cn (nI g) (g + 1) :=
  Or.inr ⟨g, hg, rfl, hp, fun g' hg p => by
    by_cases e : g' = g
    · rw [e]; exact ir g
    · exact absurd p (h g' (by omega))⟩
theorem AMo.take {P : Nat → Prop} {lt : Nat → Nat → Prop} (ir : ∀ g, ¬ lt g g) (tr : ∀ a b c, P a → P b → P c → lt a b → lt b c → lt a c) {cn g a : Nat} (hg : g < cn) (hp : P a) (hpg : P g) (hl : lt g a) (h : ∀ g', g' < g → P g' → ¬ lt g' a) : AMo P lt cn (nI g) (g + 1) :=
  Or.inr ⟨g, hg, rfl, hpg, fun g' hg' p => by
    by_cases e : g' = g
    · rw [e]; exact ir g
    · exact fun q => h g' (by omega) p (tr _ _ _ p hpg hp q hl)⟩
theorem AMo.keep {P : Nat → Prop} {lt : Nat → Nat → Prop} {cn g a : Nat} (ha : a < cn) (hp : P a) (hl : ¬ lt g a) (h : ∀ g', g' < g → P g' → ¬ lt g' a) : AMo P lt cn (nI a) (g + 1) :=
  Or.inr ⟨a, ha, rfl, hp, fun g' hg' p => by
    by_cases e : g' = g
    · rw [e]; exact hl
    · exact h g' (by omega) p⟩
section Ch
variable (isM : Nat → Prop) (ltE : Nat → Nat → Prop) (lat : Nat → Nat → Prop) (ltS : Nat → Nat → Nat → Prop) (cn : Nat)
/-- the first c points of the walk -/
def CHP (c : Nat) (s : Nat → Nat) : Prop := (∀ i, i < c → s i < cn ∧ isM (s i)) ∧ (0 < c → LE isM ltE cn (s 0)) ∧ ∀ i, i + 1 < c → LE (fun g => isM g ∧ lat g (s i)) (ltS (s i)) cn (s (i + 1))
/-- the whole walk -/
def CHW (c : Nat) (s : Nat → Nat) : Prop := CHP isM ltE lat ltS cn c s ∧ (c = 0 → ∀ g, g < cn → ¬ isM g) ∧ (0 < c → ∀ g, g < cn → ¬ (isM g ∧ lat g (s (c - 1))))
/-- the int x says which point comes next behind c points -/
def NXT (c : Nat) (s : Nat → Nat) (x : Int32) : Prop := (c = 0 ∧ AMo isM ltE cn x cn) ∨ (0 < c ∧ AMo (fun g => isM g ∧ lat g (s (c - 1))) (ltS (s (c - 1))) cn x cn)
end Ch
section Ch2
variable {isM : Nat → Prop} {ltE : Nat → Nat → Prop} {lat : Nat → Nat → Prop} {ltS : Nat → Nat → Nat → Prop} {cn : Nat}
theorem CHP.inc (tr : ∀ a b c, isM a → isM b → isM c → lat a b → lat b c → lat a c) {c : Nat} {s : Nat → Nat} (h : CHP isM ltE lat ltS cn c s) (i : Nat) : ∀ d, i + d + 1 < c → lat (s (i + d + 1)) (s i)
  | 0, hd => (h.2.2 i hd).2.1.2
  | d + 1, hd => tr _ _ _ (h.1 _ hd).2 (h.1 (i + d + 1) (by omega)).2 (h.1 i (by omega)).2 ((h.2.2 (i + d + 1) hd).2.1.2) (CHP.inc tr h i d (by omega))
theorem CHP.le (tr : ∀ a b c, isM a → isM b → isM c → lat a b → lat b c → lat a c) (ir : ∀ a, ¬ lat a a) {c : Nat} {s : Nat → Nat} (h : CHP isM ltE lat ltS cn c s) : c ≤ cn := by
  refine pigeon cn c s (fun i hi => (h.1 i hi).1) (fun i j hi hj e => ?_)
  rcases Nat.lt_trichotomy i j with l | l | l
  · have := CHP.inc tr h i (j - i - 1) (by omega)
    rw [show i + (j - i - 1) + 1 = j by omega, e] at this
    exact absurd this (ir _)
  · exact l
  · have := CHP.inc tr h j (i - j - 1) (by omega)
    rw [show j + (i - j - 1) + 1 = i by omega, e] at this
    exact absurd this (ir _)
theorem m1_ne {a : Nat} (h : a < 2 ^ 31) : ¬ nI a = -1 := fun e => by
  have := congrArg Int32.toInt e
  rw [nI_toInt h] at this
  have h2 : (-1 : Int32).toInt = -1 := by decide
  omega
theorem NXT.none (hc : cn ≤ 126) {c : Nat} {s : Nat → Nat} (hC : CHP isM ltE lat ltS cn c s) (h : NXT isM ltE lat ltS cn c s (-1)) : CHW isM ltE lat ltS cn c s := by
  refine ⟨hC, fun e => ?_, fun e => ?_⟩
  · rcases h with ⟨-, h⟩ | ⟨h0, -⟩
    · rcases h with ⟨-, h⟩ | ⟨a, h0, h1, h2, h3⟩
      · exact h
      · exact absurd h1.symm (m1_ne (by omega))
    · omega
  · rcases h with ⟨h0, -⟩ | ⟨-, h⟩
    · omega
    · rcases h with ⟨-, h⟩ | ⟨a, h0, h1, h2, h3⟩
      · exact h
      · exact absurd h1.symm (m1_ne (by omega))
theorem NXT.some {c a : Nat} {s : Nat → Nat} (hC : CHP isM ltE lat ltS cn c s) (h : (c = 0 ∧ LE isM ltE cn a) ∨ (0 < c ∧ LE (fun g => isM g ∧ lat g (s (c - 1))) (ltS (s (c - 1))) cn a)) : CHP isM ltE lat ltS cn (c + 1) (fun i => if i = c then a else s i) := by
  refine ⟨fun i hi => ?_, fun _ => ?_, fun i hi => ?_⟩
  · show (if i = c then a else s i) < cn ∧ isM (if i = c then a else s i)
    by_cases e : i = c
    · rw [if_pos e]
      rcases h with ⟨-, h⟩ | ⟨-, h⟩
      · exact ⟨h.1, h.2.1⟩
      · exact ⟨h.1, h.2.1.1⟩
    · rw [if_neg e]; exact hC.1 i (by omega)
  · show LE isM ltE cn (if 0 = c then a else s 0)
    rcases h with ⟨h0, h⟩ | ⟨h0, h⟩
    · rw [if_pos h0.symm]; exact h
    · rw [if_neg (by omega)]; exact hC.2.1 h0
  · show LE (fun g => isM g ∧ lat g (if i = c then a else s i)) (ltS (if i = c then a else s i)) cn (if i + 1 = c then a else s (i + 1))
    rw [if_neg (show ¬ i = c by omega)]
    by_cases e : i + 1 = c
    · rw [if_pos e]
      rcases h with ⟨h0, h⟩ | ⟨h0, h⟩
      · omega
      · rw [show i = c - 1 by omega]; exact h
    · rw [if_neg e]; exact hC.2.2 i (by omega)
end Ch2
