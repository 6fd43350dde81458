/-! THE CLASS'S RAYS: how great they are, and the questions about one or two of them -/
def RY (M : Mm) (g c : Nat) : Int := (M.2.2 (12 + g) c).toInt
def WR (cc : Nat → Int) (n : Nat) (M : Mm) (g : Nat) : Int := sm (fun j => cc j * RY M g (2 + j)) n
theorem Eof_b {n m : Nat} {a : Nat → Nat → Int} {b e cc : Nat → Int} (hZ : PZ n m a b e cc) {i : Nat} (hi : i < 3) : (∀ c, c < 6 → ab (Eof a b e i c) ≤ 59) ∧ ∀ c, 2 ≤ c → c < 6 → ab (Eof a b e i c) ≤ 9 := by
  have h1 : ∀ c, 2 ≤ c → c < 6 → ab (Eof a b e i c) ≤ 9 := fun c h1 h2 => by
    unfold Eof
    rw [if_neg (by omega), if_neg (by omega)]
    exact hZ.2.2.2.1 i hi (c - 2) (by omega)
  refine ⟨fun c hc => ?_, h1⟩
  by_cases c2 : 2 ≤ c
  · exact Int.le_trans (h1 c c2 hc) (by decide)
  · have hb := ab_le.mp (hZ.2.2.2.2.1 i hi)
    have he := ab_le.mp (hZ.2.2.2.2.2.1 i hi)
    have : c = 0 ∨ c = 1 := by omega
    rcases this with rfl | rfl
    · show ab (- b i) ≤ 59
      exact ab_le.mpr ⟨by omega, by omega⟩
    · show ab (- b i - e i) ≤ 59
      exact ab_le.mpr ⟨by omega, by omega⟩
theorem d3_sm {G : Nat → Nat → Int} (hG : ∀ l, l < 3 → ∀ p, p < 4 → ab (G l p) ≤ 59) (hs : ∀ l, l < 3 → ∀ p, 2 ≤ p → p < 4 → ab (G l p) ≤ 9) {p : Nat} (hp : p < 2) : ab (d3 G p 2 3) ≤ 28674 := by
  unfold d3
  have m9 : ∀ l l', l < 3 → l' < 3 → ∀ q r, 2 ≤ q → q < 4 → 2 ≤ r → r < 4 → ab (G l q * G l' r) ≤ 81 := fun l l' h1 h2 q r q1 q2 r1 r2 => ab_mul_le (B := 9) (C := 9) (hs l h1 q q1 q2) (hs l' h2 r r1 r2)
  have m5 : ∀ l l', l < 3 → l' < 3 → ∀ r, 2 ≤ r → r < 4 → ab (G l p * G l' r) ≤ 531 := fun l l' h1 h2 r r1 r2 => ab_mul_le (B := 59) (C := 9) (hG l h1 p (by omega)) (hs l' h2 r r1 r2)
  have m5' : ∀ l l', l < 3 → l' < 3 → ∀ r, 2 ≤ r → r < 4 → ab (G l r * G l' p) ≤ 531 := fun l l' h1 h2 r r1 r2 => ab_mul_le (B := 9) (C := 59) (hs l h1 r r1 r2) (hG l' h2 p (by omega))
  have a1 := ab_le.mp (m9 1 2 (by decide) (by decide) 2 3 (by decide) (by decide) (by decide) (by decide))
  have a2 := ab_le.mp (m9 1 2 (by decide) (by decide) 3 2 (by decide) (by decide) (by decide) (by decide))
  have a3 := ab_le.mp (m5 1 2 (by decide) (by decide) 3 (by decide) (by decide))
  have a4 := ab_le.mp (m5' 1 2 (by decide) (by decide) 3 (by decide) (by decide))
  have a5 := ab_le.mp (m5 1 2 (by decide) (by decide) 2 (by decide) (by decide))
  have a6 := ab_le.mp (m5' 1 2 (by decide) (by decide) 2 (by decide) (by decide))
  have t1 := ab_le.mp (ab_mul_le (B := 59) (C := 162) (hG 0 (by decide) p (by omega)) (ab_le.mpr (show -162 ≤ G 1 2 * G 2 3 - G 1 3 * G 2 2 ∧ G 1 2 * G 2 3 - G 1 3 * G 2 2 ≤ 162 by omega)))
  have t2 := ab_le.mp (ab_mul_le (B := 9) (C := 1062) (hs 0 (by decide) 2 (by decide) (by decide)) (ab_le.mpr (show -1062 ≤ G 1 p * G 2 3 - G 1 3 * G 2 p ∧ G 1 p * G 2 3 - G 1 3 * G 2 p ≤ 1062 by omega)))
  have t3 := ab_le.mp (ab_mul_le (B := 9) (C := 1062) (hs 0 (by decide) 3 (by decide) (by decide)) (ab_le.mpr (show -1062 ≤ G 1 p * G 2 2 - G 1 2 * G 2 p ∧ G 1 p * G 2 2 - G 1 2 * G 2 p ≤ 1062 by omega)))
  exact ab_le.mpr ⟨by omega, by omega⟩
/-- what is sure of the rays below cn -/
def RF (M : Mm) (n cn : Nat) : Prop := ∀ g, g < cn → (∀ c, c < 6 → 0 ≤ RY M g c ∧ RY M g c ≤ 2 ^ 21) ∧ RY M g 0 ≤ 28674 ∧ RY M g 1 ≤ 28674 ∧ (∀ c, 2 + n ≤ c → c < 6 → RY M g c = 0) ∧ (RY M g 0 = 0 → RY M g 1 = 0 → 0 < sm (fun j => RY M g (2 + j)) n)
theorem sm_pos {f : Nat → Int} : ∀ {n : Nat}, (∀ j, j < n → 0 ≤ f j) → (∃ j, j < n ∧ 0 < f j) → 0 < sm f n
  | 0, _, ⟨j, hj, _⟩ => by omega
  | n + 1, h, ⟨j, hj, hp⟩ => by
    show 0 < sm f n + f n
    have hn := h n (by omega)
    by_cases e : j = n
    · have : 0 ≤ sm f n := by
        have : ∀ k, k ≤ n → 0 ≤ sm f k := fun k => by
          induction k with
          | zero => intro _; exact Int.le_refl _
          | succ k ih =>
            intro hk
            have := ih (by omega)
            have := h k (by omega)
            show 0 ≤ sm f k + f k
            omega
        exact this n (Nat.le_refl _)
      rw [e] at hp; omega
    · have := sm_pos (f := f) (n := n) (fun j hj => h j (by omega)) ⟨j, by omega, hp⟩
      omega
theorem rf_of {M : Mm} {n m mask cn : Nat} {a : Nat → Nat → Int} {b e cc : Nat → Int} {sn : Nat → Int32} (hZ : PZ n m a b e cc) (h : RLS M n m mask (Eof a b e) sn (2 ^ (2 + n)) 0 cn) : RF M n cn := by
  intro g hg
  obtain ⟨S, R, hc, hr⟩ := h.1 g hg
  have hn := hZ.2.1
  have hm := hZ.2.2.1
  have h64 := pow6 n hn
  have h8 := pow3 m hm
  obtain ⟨c1, c2, c3, c4, c5, c6⟩ := hc
  have hS : S < 64 := by omega
  have hR : R < 8 := by omega
  have h3 : ct R 6 ≤ 3 := by rw [← ct_m m hm R c2]; exact Nat.le_trans (ct_le R m) hm
  have hpl : ∀ l, l < ct R 6 → pl R l < 3 := fun l hl => by
    obtain ⟨p1, p2, p3⟩ := pl_ok (show R < 64 by omega) hl
    exact Classical.byContradiction (fun hno => bt_hi' (show R < 2 ^ 3 by omega) (show 3 ≤ pl R l by omega) p2)
  have hG := GG_le (E := Eof a b e) (fun i hi => (Eof_b hZ hi).1) hS hR h3 hpl
  have hs : ∀ l, l < 3 → ∀ p, 2 ≤ p → p < 4 → ab (GG (Eof a b e) S R l p) ≤ 9 := fun l hl p h1 h2 => by
    unfold GG
    split
    · rename_i hlt
      split
      · rename_i hp
        obtain ⟨p1, p2, p3⟩ := pl_ok hS hp
        have := ct_le S (pl S p)
        exact (Eof_b hZ (hpl l hlt)).2 _ (by omega) p1
      · decide
    · split <;> decide
  have hsg : sg (Eof a b e) S R = 1 ∨ sg (Eof a b e) S R = -1 := by
    unfold sg
    split
    · exact Or.inr rfl
    · exact Or.inl rfl
  have nn : ∀ c, c < 6 → 0 ≤ ryv (Eof a b e) S R c := fun c hc => by
    by_cases hb : bt S c
    · exact Int.le_of_lt (ray_pos c5 hc hb)
    · rw [ray_off hb]; exact Int.le_refl _
  have big : ∀ c, c < 6 → ryv (Eof a b e) S R c ≤ 2 ^ 21 := fun c hc => by
    by_cases hb : bt S c
    · rw [ray_on hb]
      have h1 := cof_le hG (show ct S c < 4 by have := ct_lt hb hc; omega)
      rw [← ab_sg hsg] at h1
      exact (ab_le.mp h1).2
    · rw [ray_off hb]; decide
  have sml : ∀ c, c < 2 → ryv (Eof a b e) S R c ≤ 28674 := fun c hc => by
    by_cases hb : bt S c
    · rw [ray_on hb]
      have hp : ct S c < 2 := by have := ct_le S c; omega
      have h1 : ab (cof (GG (Eof a b e) S R) (ct S c)) ≤ 28674 := by
        have : ct S c = 0 ∨ ct S c = 1 := by omega
        rcases this with h | h
        · rw [h, cof0]; exact d3_sm hG hs (by decide)
        · rw [h, cof1, ab_neg]; exact d3_sm hG hs (by decide)
      rw [← ab_sg hsg] at h1
      exact (ab_le.mp h1).2
    · rw [ray_off hb]; decide
  have er : ∀ c, c < 6 → RY M g c = ryv (Eof a b e) S R c := hr
  refine ⟨fun c hc => by rw [er c hc]; exact ⟨nn c hc, big c hc⟩, by rw [er 0 (by decide)]; exact sml 0 (by decide), by rw [er 1 (by decide)]; exact sml 1 (by decide), fun c h1 h2 => by rw [er c h2]; exact ray_off (bt_hi' c1 h1), fun h0 h1 => ?_⟩
  rw [er 0 (by decide)] at h0
  rw [er 1 (by decide)] at h1
  rw [sm_congr (g := fun j => ryv (Eof a b e) S R (2 + j)) (fun j hj => er _ (by omega))]
  refine sm_pos (fun j hj => nn _ (by omega)) ?_
  obtain ⟨p1, p2, -⟩ := pl_ok hS (show 0 < ct S 6 by omega)
  have hpos := ray_pos c5 p1 p2
  have hlt : pl S 0 < 2 + n := Classical.byContradiction (fun hno => bt_hi' c1 (show 2 + n ≤ pl S 0 by omega) p2)
  have hge : 2 ≤ pl S 0 := Classical.byContradiction (fun hno => by
    have : pl S 0 = 0 ∨ pl S 0 = 1 := by omega
    rcases this with h | h <;> rw [h] at hpos <;> omega)
  exact ⟨pl S 0 - 2, by omega, by rw [show 2 + (pl S 0 - 2) = pl S 0 by omega]; exact hpos⟩
/-- what the questions about rays read -/
def CX (M : Mm) (n cn : Nat) (cc : Nat → Int) : Prop := n ≤ 4 ∧ M.1 0 = nI n ∧ M.1 2 = nI cn ∧ cn ≤ 126 ∧ (∀ j, j < n → (M.2.1 3 j).toInt = cc j ∧ ab (cc j) ≤ 9) ∧ RF M n cn
def cmpI (a b : Int) : Int32 := if a < b then -1 else if a = b then 0 else 1
theorem jcmp {N : Nat} (x y : Int64) (M : Mm) : f_J13_compare_74951 N x y M = some (cmpI x.toInt y.toInt, M) := by
  unfold f_J13_compare_74951 b_J13_compare_74951_0 cmpI
  by_cases h : x.toInt < y.toInt
  · rw [if_pos h, if_neg (fun q => by have := cmp_ge.mp q; omega)]
  · rw [if_neg h, if_pos (cmp_ge.mpr (by omega))]
    by_cases e : x.toInt = y.toInt
    · rw [if_pos e, if_pos (cmp_eq.mpr e)]
    · rw [if_neg e, if_neg (fun q => e (cmp_eq.mp q))]
theorem mcmp {N : Nat} {x y z w : Int64} {M : Mm} (h1 : -2 ^ 63 ≤ x.toInt * w.toInt ∧ x.toInt * w.toInt < 2 ^ 63) (h2 : -2 ^ 63 ≤ z.toInt * y.toInt ∧ z.toInt * y.toInt < 2 ^ 63) : f_X3_compare N x y z w M = some (cmpI (x.toInt * w.toInt) (z.toInt * y.toInt), M) := by
  have e1 : (x * w).toInt = x.toInt * w.toInt := Kit.i64_mul h1.1 h1.2
  have e2 : (z * y).toInt = z.toInt * y.toInt := Kit.i64_mul h2.1 h2.2
  unfold f_X3_compare b_X3_compare_0 cmpI
  by_cases h : x.toInt * w.toInt < z.toInt * y.toInt
  · rw [if_pos h, if_neg (fun q => by have := cmp_ge.mp q; omega)]
  · rw [if_neg h, if_pos (cmp_ge.mpr (by omega))]
    by_cases e : x.toInt * w.toInt = z.toInt * y.toInt
    · rw [if_pos e, if_pos (cmp_le.mpr (by omega))]
    · rw [if_neg e, if_neg (fun q => by have := cmp_le.mp q; omega)]
theorem cmpI_0 {a b : Int} : cmpI a b = 0 ↔ a = b := by
  unfold cmpI
  by_cases h : a < b
  · rw [if_pos h]; exact ⟨fun q => absurd q (by decide), fun q => by omega⟩
  · rw [if_neg h]
    by_cases e : a = b
    · rw [if_pos e]; exact ⟨fun _ => e, fun _ => rfl⟩
    · rw [if_neg e]; exact ⟨fun q => absurd q (by decide), fun q => absurd q e⟩
theorem cmpI_lt {a b : Int} : cmpI a b < 0 ↔ a < b := by
  unfold cmpI
  by_cases h : a < b
  · rw [if_pos h]; exact ⟨fun _ => h, fun _ => by decide⟩
  · rw [if_neg h]
    by_cases e : a = b
    · rw [if_pos e]; exact ⟨fun q => absurd q (by decide), fun q => absurd q h⟩
    · rw [if_neg e]; exact ⟨fun q => absurd q (by decide), fun q => absurd q h⟩
theorem cmpI_le {a b : Int} : cmpI a b ≤ 0 ↔ a ≤ b := by
  unfold cmpI
  by_cases h : a < b
  · rw [if_pos h]; exact ⟨fun _ => by omega, fun _ => by decide⟩
  · rw [if_neg h]
    by_cases e : a = b
    · rw [if_pos e]; exact ⟨fun _ => by omega, fun _ => by decide⟩
    · rw [if_neg e]; exact ⟨fun q => absurd q (by decide), fun q => by omega⟩
theorem cmpI_ge {a b : Int} : 0 ≤ cmpI a b ↔ b ≤ a := by
  unfold cmpI
  by_cases h : a < b
  · rw [if_pos h]; exact ⟨fun q => absurd q (by decide), fun q => by omega⟩
  · rw [if_neg h]
    by_cases e : a = b
    · rw [if_pos e]; exact ⟨fun _ => by omega, fun _ => by decide⟩
    · rw [if_neg e]; exact ⟨fun _ => by omega, fun _ => by decide⟩
theorem cmpI_gt {a b : Int} : 0 < cmpI a b ↔ b < a := by
  unfold cmpI
  by_cases h : a < b
  · rw [if_pos h]; exact ⟨fun q => absurd q (by decide), fun q => by omega⟩
  · rw [if_neg h]
    by_cases e : a = b
    · rw [if_pos e]; exact ⟨fun q => absurd q (by decide), fun q => by omega⟩
    · rw [if_neg e]; exact ⟨fun _ => by omega, fun _ => by decide⟩
theorem rR {M : Mm} {g c : Nat} (hg : g < 126) (hc : c < 6) : rL M (12 + g) (nI c) = some (M.2.2 (12 + g) c) := rL_i (by rw [lnR (by omega) (by omega)]; exact hc)
theorem rR0 {M : Mm} {g : Nat} (hg : g < 126) : rL M (12 + g) 0 = some (M.2.2 (12 + g) 0) := rR (c := 0) hg (by decide)
theorem rR1 {M : Mm} {g : Nat} (hg : g < 126) : rL M (12 + g) 1 = some (M.2.2 (12 + g) 1) := rR (c := 1) hg (by decide)
theorem isPt {N : Nat} {M : Mm} {g : Nat} (hg : g < 126) : f_X2_isPoint N (12 + g) M = some (if 0 < RY M g 0 ∧ RY M g 1 = 0 then 1 else 0, M) := by
  unfold f_X2_isPoint b_X2_isPoint_0
  rw [rR0 hg, Option.bind_some]
  by_cases h : 0 < RY M g 0
  · rw [if_neg (fun q => by have := cmp_le.mp q; rw [l0] at this; unfold RY at h; omega), rR1 hg, Option.bind_some]
    by_cases h1 : RY M g 1 = 0
    · rw [if_pos (cmp_eq.mpr (by rw [l0]; exact h1)), if_pos ⟨h, h1⟩]
    · rw [if_neg (fun q => h1 (by have := cmp_eq.mp q; rw [l0] at this; exact this)), if_neg (fun q => h1 q.2)]
  · rw [if_pos (cmp_le.mpr (by rw [l0]; unfold RY at h; omega)), if_neg (fun q => h q.1)]
theorem isDi {N : Nat} {M : Mm} {g : Nat} (hg : g < 126) : f_X2_isDirection N (12 + g) M = some (if RY M g 0 = 0 ∧ RY M g 1 = 0 then 1 else 0, M) := by
  unfold f_X2_isDirection b_X2_isDirection_0
  rw [rR0 hg, Option.bind_some]
  by_cases h : RY M g 0 = 0
  · rw [if_pos (cmp_eq.mpr (by rw [l0]; exact h)), rR1 hg, Option.bind_some]
    by_cases h1 : RY M g 1 = 0
    · rw [if_pos (cmp_eq.mpr (by rw [l0]; exact h1)), if_pos ⟨h, h1⟩]
    · rw [if_neg (fun q => h1 (by have := cmp_eq.mp q; rw [l0] at this; exact this)), if_neg (fun q => h1 q.2)]
  · rw [if_neg (fun q => h (by have := cmp_eq.mp q; rw [l0] at this; exact this)), if_neg (fun q => h q.1)]
section Cx
variable {M : Mm} {n cn : Nat} {cc : Nat → Int}
theorem CX.r (h : CX M n cn cc) {g c : Nat} (hg : g < cn) (hc : c < 6) : ab (M.2.2 (12 + g) c).toInt ≤ 2 ^ 21 := by
  have := (h.2.2.2.2.2 g hg).1 c hc
  exact ab_le.mpr ⟨by unfold RY at this; omega, this.2⟩
theorem WR_b (h : CX M n cn cc) {g : Nat} (hg : g < cn) : ab (WR cc n M g) ≤ 75497472 := by
  have h1 := sm_le (f := fun j => cc j * RY M g (2 + j)) (B := 9 * 2 ^ 21) (n := n) (fun j hj => ab_mul_le (h.2.2.2.2.1 j hj).2 (h.r hg (by have := h.1; omega)))
  have hn := h.1
  have h2 := ab_le.mp h1
  have : (n : Int) * (9 * 2 ^ 21) ≤ 4 * (9 * 2 ^ 21) := Int.mul_le_mul_of_nonneg_right (by omega) (by decide)
  exact ab_le.mpr ⟨by unfold WR; omega, by unfold WR; omega⟩
theorem wth_r {N : Nat} (hN : 10 ≤ N) (h : CX M n cn cc) {g : Nat} (hg : g < cn) : ∃ y : Int64, f_X1_worth N (12 + g) M = some (y, M) ∧ y.toInt = WR cc n M g := by
  have hc := h.2.2.2.1
  obtain ⟨y, h1, h2⟩ := wth_s (N := N) (n := n) (κ := 12 + g) (M := M) hN h.1 (lnR (by omega) (by omega)) h.2.1 (fun j hj => by rw [(h.2.2.2.2.1 j hj).1]; exact (h.2.2.2.2.1 j hj).2) (fun c hc => h.r hg hc)
  refine ⟨y, h1, h2.trans ?_⟩
  unfold wth WR
  exact sm_congr (fun j hj => by rw [(h.2.2.2.2.1 j hj).1]; rfl)
/-- times: w / (u + w), compared by w / u -/
theorem cmpT {N : Nat} (h : CX M n cn cc) {g k : Nat} (hg : g < cn) (hk : k < cn) : f_X2_compareTimes N (12 + g) (12 + k) M = some (cmpI (RY M g 1 * RY M k 0) (RY M k 1 * RY M g 0), M) := by
  have hc := h.2.2.2.1
  have b1 := mulle (h.r hg (c := 1) (by decide)) (h.r hk (c := 0) (by decide))
  have b2 := mulle (h.r hk (c := 1) (by decide)) (h.r hg (c := 0) (by decide))
  unfold f_X2_compareTimes b_X2_compareTimes_0
  rw [rR1 (by omega), Option.bind_some, rR0 (by omega), Option.bind_some, rR1 (by omega), Option.bind_some, rR0 (by omega), Option.bind_some, jcmp, Option.bind_some]
  dsimp only
  rw [Kit.i64_mul (by omega) (by omega), Kit.i64_mul (by omega) (by omega)]
  rfl
end Cx
