/-! THE CLASS: tryRay -/
/-- the place p of the set S of columns (or of rows) -/
def pl (S p : Nat) : Nat := ((List.range 6).find? (fun c => S / 2 ^ c % 2 == 1 && ct S c == p)).getD 0
set_option maxRecDepth 100000 in
theorem pl_tab : ∀ S, S < 64 → ∀ p, p < 6 → p < ct S 6 → pl S p < 6 ∧ S / 2 ^ pl S p % 2 = 1 ∧ ct S (pl S p) = p := by decide +kernel
theorem pl_ok {S p : Nat} (hS : S < 64) (hp : p < ct S 6) : pl S p < 6 ∧ bt S (pl S p) ∧ ct S (pl S p) = p := pl_tab S hS p (by have := ct_le S 6; omega) hp
theorem pl_of {S c : Nat} (hS : S < 64) (hc : c < 6) (hb : bt S c) : pl S (ct S c) = c := by
  obtain ⟨h1, h2, h3⟩ := pl_ok hS (ct_lt hb hc)
  exact ct_inj h2 hb h3
theorem ct_m : ∀ m, m ≤ 3 → ∀ R, R < 2 ^ m → ct R m = ct R 6 := by decide +kernel
theorem pow3 : ∀ m, m ≤ 3 → 2 ^ m ≤ 8 := by decide
theorem pow6 : ∀ n, n ≤ 4 → 2 ^ (2 + n) ≤ 64 := by decide
/-- the grid of the columns S and the sharp rows R -/
def GG (E : Nat → Nat → Int) (S R l p : Nat) : Int := if l < ct R 6 then (if p < ct S 6 then E (pl R l) (pl S p) else 0) else if p = l + 1 then 1 else 0
def sg (E : Nat → Nat → Int) (S R : Nat) : Int := if cof (GG E S R) 0 < 0 then -1 else 1
def okr (E : Nat → Nat → Int) (S R : Nat) : Prop := ∀ p, p < ct S 6 → 0 < sg E S R * cof (GG E S R) p
def ryv (E : Nat → Nat → Int) (S R c : Nat) : Int := if S / 2 ^ c % 2 = 1 then sg E S R * cof (GG E S R) (ct S c) else 0
theorem GG_le {E : Nat → Nat → Int} (hE : ∀ i, i < 3 → ∀ c, c < 6 → ab (E i c) ≤ 59) {S R : Nat} (hS : S < 64) (hR : R < 8) (h3 : ct R 6 ≤ 3) (hb : ∀ l, l < ct R 6 → pl R l < 3) : ∀ l, l < 3 → ∀ p, p < 4 → ab (GG E S R l p) ≤ 59 := by
  intro l hl p hp
  unfold GG
  by_cases h1 : l < ct R 6
  · rw [if_pos h1]
    by_cases h2 : p < ct S 6
    · rw [if_pos h2]
      exact hE _ (hb l h1) _ (pl_ok hS h2).1
    · rw [if_neg h2]; decide
  · rw [if_neg h1]
    split <;> decide
theorem cof_le {G : Nat → Nat → Int} (hG : ∀ l, l < 3 → ∀ p, p < 4 → ab (G l p) ≤ 59) {g : Nat} (hg : g < 4) : ab (cof G g) ≤ 2 ^ 21 := by
  have D : ∀ p q r, p < 4 → q < 4 → r < 4 → ab (d3 G p q r) ≤ 2 ^ 21 := by
    intro p q r hp hq hr
    have s2 : ∀ a b, a < 4 → b < 4 → ab (G 1 a * G 2 b - G 1 b * G 2 a) ≤ 2 * (59 * 59) := fun a b ha hb => by
      have c1 := mulle (hG 1 (by decide) a ha) (hG 2 (by decide) b hb)
      have c2 := mulle (hG 1 (by decide) b hb) (hG 2 (by decide) a ha)
      exact ab_le.mpr (by omega)
    have c1 := mulle (hG 0 (by decide) p hp) (s2 q r hq hr)
    have c2 := mulle (hG 0 (by decide) q hq) (s2 p r hp hr)
    have c3 := mulle (hG 0 (by decide) r hr) (s2 p q hp hq)
    unfold d3
    exact ab_le.mpr (by omega)
  unfold cof
  split
  · exact D 1 2 3 (by decide) (by decide) (by decide)
  · split
    · rw [ab_neg]; exact D 0 2 3 (by decide) (by decide) (by decide)
    · split
      · exact D 0 1 3 (by decide) (by decide) (by decide)
      · rw [ab_neg]; exact D 0 1 2 (by decide) (by decide) (by decide)
set_option maxHeartbeats 1000000 in
theorem tr48 {N κ sz mask : Nat} (hκ : lnL κ = 6) : ∀ (d c fuel : Nat) (M : Mm), c + d = 6 → d < fuel →
    ∃ M', lpT (fun _ _ _ _ _ => none) (F_X0_tryRay_48 N) fuel (nI mask) (nI sz) κ (nI c) M = b_X0_tryRay_70 N (nI mask) (nI sz) κ 0 M' ∧ M'.1 = M.1 ∧ M'.2.1 = M.2.1 ∧ (∀ k, k ≠ κ → M'.2.2 k = M.2.2 k) ∧ (∀ c', c' < c → M'.2.2 κ c' = M.2.2 κ c') ∧ ∀ c', c ≤ c' → c' < 6 → M'.2.2 κ c' = 0 := by
  intro d
  induction d with
  | zero =>
    intro c fuel M hc hf
    obtain ⟨g, rfl, -⟩ := fuel_s hf
    have hc6 : c = 6 := by omega
    subst hc6
    refine ⟨M, ?_, rfl, rfl, fun _ _ => rfl, fun _ _ => rfl, fun c' a b => by omega⟩
    rw [lp_s]
    generalize lpT (fun _ _ _ _ _ => none) (F_X0_tryRay_48 N) g = q
    unfold F_X0_tryRay_48
    rw [if_pos (by decide)]
  | succ d ih =>
    intro c fuel M hc hf
    obtain ⟨g, rfl, hg⟩ := fuel_s hf
    obtain ⟨M', h1, h2, h3, h4, h5, h6⟩ := ih (c + 1) g (sL M κ c 0) (by omega) (by omega)
    refine ⟨M', ?_, h2, h3, fun k hk => (h4 k hk).trans (sL_ne hk), fun c' hc' => ?_, fun c' a b => ?_⟩
    · rw [← h1, lp_s]
      generalize lpT (fun _ _ _ _ _ => none) (F_X0_tryRay_48 N) g = q
      unfold F_X0_tryRay_48
      rw [if_neg (fun h => by have := (nI_leI (a := 6) (by omega) (by omega)).mp h; omega), wL_i (by rw [hκ]; omega), Option.bind_some, nI_1]
    · rw [h5 c' (by omega), sL_at, if_neg (by omega)]
    · by_cases e : c' = c
      · subst e
        rw [h5 c' (by omega), sL_at, if_pos ⟨rfl, rfl⟩]
      · exact h6 c' (by omega) b
set_option maxHeartbeats 1000000 in
theorem tr70 {N κ S mask : Nat} (hS : S < 64) (h4 : ct S 6 ≤ 4) (hκ : lnL κ = 6) (hκ0 : κ ≠ 0) : ∀ (d p fuel : Nat) (M : Mm), p + d = ct S 6 → d < fuel → (∀ c, c < 6 → bt S c → M.2.1 4 (ct S c) = nI c) →
    ∃ M' fu, lpT (fun _ _ _ _ _ => none) (F_X0_tryRay_70 N) fuel (nI mask) (nI (ct S 6)) κ (nI p) M = lpT (fun _ _ _ _ _ => none) (F_X0_tryRay_70 N) (fu + 1) (nI mask) (nI (ct S 6)) κ (nI (ct S 6)) M' ∧ M'.1 = M.1 ∧ M'.2.1 = M.2.1 ∧ (∀ k, k ≠ κ → M'.2.2 k = M.2.2 k) ∧ ∀ c, c < 6 → M'.2.2 κ c = if S / 2 ^ c % 2 = 1 ∧ p ≤ ct S c then M.2.2 0 (ct S c) else M.2.2 κ c := by
  intro d
  induction d with
  | zero =>
    intro p fuel M hp hf hM
    obtain ⟨g, rfl, -⟩ := fuel_s hf
    have hps : p = ct S 6 := by omega
    subst hps
    refine ⟨M, g, rfl, rfl, rfl, fun _ _ => rfl, fun c hc => ?_⟩
    rw [if_neg (fun h => by have := ct_lt (show bt S c from h.1) hc; omega)]
  | succ d ih =>
    intro p fuel M hp hf hM
    obtain ⟨g, rfl, hg⟩ := fuel_s hf
    obtain ⟨q1, q2, q3⟩ := pl_ok hS (show p < ct S 6 by omega)
    have hpl := hM (pl S p) q1 q2
    rw [q3] at hpl
    obtain ⟨M', fu, h1, h2, h3, h5, h6⟩ := ih (p + 1) g (sL M κ (pl S p) (M.2.2 0 p)) (by omega) (by omega) hM
    have e0 : (sL M κ (pl S p) (M.2.2 0 p)).2.2 0 = M.2.2 0 := sL_ne (Ne.symm hκ0)
    refine ⟨M', fu, ?_, h2, h3, fun k hk => (h5 k hk).trans (sL_ne hk), fun c hc => ?_⟩
    · rw [← h1, lp_s]
      generalize lpT (fun _ _ _ _ _ => none) (F_X0_tryRay_70 N) g = q
      unfold F_X0_tryRay_70
      rw [if_neg (fun h => by have := (nI_leI (by omega) (by omega)).mp h; omega), rA_i (by rw [lnA4]; omega), Option.bind_some, rL_i (by rw [lnL0]; omega), Option.bind_some, hpl, wL_i (by rw [hκ]; omega), Option.bind_some, nI_1]
    · rw [h6 c hc, e0, sL_at]
      by_cases hb : S / 2 ^ c % 2 = 1
      · by_cases hpc : ct S c = p
        · have hce : c = pl S p := ct_inj hb q2 (hpc.trans q3.symm)
          rw [if_neg (by omega), if_pos ⟨rfl, hce⟩, if_pos ⟨hb, by omega⟩, hpc]
        · have hcne : ¬ c = pl S p := fun e => hpc (by rw [e]; exact q3)
          by_cases hlt : p + 1 ≤ ct S c
          · rw [if_pos ⟨hb, hlt⟩, if_pos ⟨hb, by omega⟩]
          · rw [if_neg (fun h => hlt h.2), if_neg (fun h => hcne h.2), if_neg (by omega)]
      · have hcne : ¬ c = pl S p := fun e => hb (by rw [e]; exact q2)
        rw [if_neg (fun h => hb h.1), if_neg (fun h => hcne h.2), if_neg (fun h => hb h.1)]
/-- what tryRay leaves: all but the places, the grid, the parts, the count, and the ray that comes next -/
def fr4 (M M' : Mm) (cnt : Nat) : Prop := (∀ k, k ≠ 2 → M'.1 k = M.1 k) ∧ (∀ k, k ≠ 4 → M'.2.1 k = M.2.1 k) ∧ ∀ κ, (1 ≤ κ ∧ κ < 9) ∨ (12 ≤ κ ∧ κ ≠ 12 + cnt) → M'.2.2 κ = M.2.2 κ
set_option maxHeartbeats 2000000 in
theorem try_s {N n m S R mask cn : Nat} (hN : 10 ≤ N) (hn : n ≤ 4) (hm : m ≤ 3) (hS : S < 2 ^ (2 + n)) (hR : R < 2 ^ m) (hmk : mask < 8) (hsz : ct R 6 + 1 = ct S 6) {M : Mm} (h1 : M.1 1 = nI m) (h2 : M.1 2 = nI cn) (hcn : cn < 126) {E : Nat → Nat → Int} (hE : ∀ i, i < 3 → ∀ c, c < 6 → (M.2.2 (6 + i) c).toInt = E i c) (hEb : ∀ i, i < 3 → ∀ c, c < 6 → ab (E i c) ≤ 59) :
    ∃ M', f_X0_tryRay N (nI S) (nI R) (nI mask) M = some M' ∧ fr4 M M' cn ∧
      ((okr E S R ∧ (∀ i, i < m → bt mask i → fitS (M.2.1 0 i) (sm (fun c => E i c * ryv E S R c) 6)) ∧ M'.1 2 = nI (cn + 1) ∧ ∀ c, c < 6 → (M'.2.2 (12 + cn) c).toInt = ryv E S R c) ∨
       (¬ (okr E S R ∧ ∀ i, i < m → bt mask i → fitS (M.2.1 0 i) (sm (fun c => E i c * ryv E S R c) 6)) ∧ M'.1 2 = nI cn)) := by
  have hS64 : S < 64 := Nat.lt_of_lt_of_le hS (pow6 n hn)
  have hR8 : R < 8 := Nat.lt_of_lt_of_le hR (pow3 m hm)
  have hctm : ct R m = ct R 6 := ct_m m hm R hR
  have hc3 : ct R 6 ≤ 3 := by rw [← hctm]; have := ct_le R m; omega
  have hrow : ∀ l, l < ct R 6 → pl R l < m ∧ bt R (pl R l) ∧ ct R (pl R l) = l := by
    intro l hl
    obtain ⟨q1, q2, q3⟩ := pl_ok (S := R) (by omega) hl
    refine ⟨?_, q2, q3⟩
    obtain ⟨k, a1, a2, a3⟩ := ct_at (p := R) (B := m) (r := l) (by omega)
    have : k = pl R l := ct_inj a2 q2 (a3.trans q3.symm)
    omega
  obtain ⟨M1, p1, p2, p3, p4, p5⟩ := plc (N := N) hN hS64 (by omega) M
  obtain ⟨M2, g1, g2, -, g4, g5⟩ := fg6 (N := N) (sz := ct S 6) hN hm hR8 (by omega) (pl S) (fun p hp => (pl_ok hS64 hp).1) m 0 N M1 (by omega) (by omega) (by rw [p2]; exact h1) (fun p hp => by
    obtain ⟨q1, q2, q3⟩ := pl_ok hS64 hp
    have := p5 (pl S p) q1 q2
    rw [q3] at this
    exact this)
  have hGG : ∀ l, l < 3 → ∀ p, p < 4 → gr M2 l p = GG E S R l p := by
    intro l hl p hp
    unfold gr GG
    by_cases hl2 : l < ct R 6
    · obtain ⟨q1, q2, q3⟩ := hrow l hl2
      have := g4 (pl R l) (Nat.zero_le _) q1 q2 p hp
      rw [q3] at this
      rw [this, if_pos hl2]
      by_cases hps : p < ct S 6
      · rw [if_pos hps, if_pos hps, p3]
        exact hE _ (by omega) _ (pl_ok hS64 hps).1
      · rw [if_neg hps, if_neg hps]; exact l0
    · rw [g5 l (by omega) hl p hp, if_neg hl2]
      split <;> decide
  have hGb := GG_le hEb hS64 hR8 hc3 (fun l hl => by have := (hrow l hl).1; omega)
  obtain ⟨r, M3, σ, f1, f2, f3, f4, f5, f6, f7, f8⟩ := fp (N := N) (sz := ct S 6) hN (by omega) (GG E S R) hGb (M := M2) hGG
  have hσ : σ = sg E S R := f6
  subst hσ
  have e2 : M2.1 2 = nI cn := by rw [g2.1, p2]; exact h2
  have e32 : M3.1 2 = nI cn := by rw [f3]; exact e2
  have frA : ∀ k, k ≠ 4 → M3.2.1 k = M.2.1 k := fun k hk => by rw [f4, g2.2.1, p4 k hk]
  have frL : ∀ κ, (1 ≤ κ ∧ κ < 9) ∨ 12 ≤ κ → M3.2.2 κ = M.2.2 κ := fun κ hκ => by rw [f5 κ (by omega), g2.2.2 κ (by omega), p3]
  have hrun : f_X0_tryRay N (nI S) (nI R) (nI mask) M = if r = 0 then some M3 else b_X0_tryRay_48 N (nI mask) (nI (ct S 6)) (12 + cn) 0 M3 := by
    unfold f_X0_tryRay b_X0_tryRay_0
    rw [p1, Option.bind_some]
    dsimp only
    rw [show f_X0_fillGrid N (nI R) (nI (ct S 6)) M1 = some M2 from g1, Option.bind_some, e2, if_neg (fun h => by have := (nI_leI (a := 126) (by omega) (by omega)).mp h; omega), f1, Option.bind_some]
    dsimp only
    rw [e32, rO2 hcn, Option.bind_some]
  by_cases hr : r = 0
  · refine ⟨M3, by rw [hrun, if_pos hr], ⟨fun k hk => by rw [f3, g2.1, p2], frA, fun κ hκ => frL κ (by omega)⟩, Or.inr ⟨fun h => ?_, e32⟩⟩
    have := f7.mpr h.1
    rw [this] at hr
    exact absurd hr (by decide)
  · have hr1 : r = 1 := f2.resolve_left hr
    have hok : okr E S R := f7.mp hr1
    have hparts := f8 hr1
    have hκ : lnL (12 + cn) = 6 := lnR (by omega) (by omega)
    obtain ⟨M4, t1, t2, t3, t4, -, t6⟩ := tr48 (N := N) (κ := 12 + cn) (sz := ct S 6) (mask := mask) hκ 6 0 N M3 (by omega) (by omega)
    obtain ⟨M5, fu, u1, u2, u3, u4, u5⟩ := tr70 (N := N) (κ := 12 + cn) (mask := mask) hS64 (by omega) hκ (by omega) (ct S 6) 0 N M4 (by omega) (by omega) (fun c hc hb => by rw [t3, f4, g2.2.1]; exact p5 c hc hb)
    have e5A : ∀ k, k ≠ 4 → M5.2.1 k = M.2.1 k := fun k hk => by rw [u3, t3]; exact frA k hk
    have e5L : ∀ κ, (1 ≤ κ ∧ κ < 9) ∨ (12 ≤ κ ∧ κ ≠ 12 + cn) → M5.2.2 κ = M.2.2 κ := fun κ hκ => by rw [u4 κ (by omega), t4 κ (by omega)]; exact frL κ (by omega)
    have e51 : M5.1 = M.1 := by rw [u2, t2, f3, g2.1, p2]
    have hry : ∀ c, c < 6 → (M5.2.2 (12 + cn) c).toInt = ryv E S R c := by
      intro c hc
      rw [u5 c hc]
      unfold ryv
      by_cases hb : S / 2 ^ c % 2 = 1
      · rw [if_pos ⟨hb, Nat.zero_le _⟩, if_pos hb, t4 0 (by omega)]
        exact hparts _ (ct_lt hb hc)
      · rw [if_neg (fun h => hb h.1), if_neg hb, t6 c (Nat.zero_le _) hc]; exact l0
    have hryb : ∀ c, c < 6 → ab (ryv E S R c) ≤ 2 ^ 21 := by
      intro c hc
      unfold ryv
      by_cases hb : S / 2 ^ c % 2 = 1
      · rw [if_pos hb, ab_mul]
        have h1 : ab (sg E S R) = 1 := by unfold sg; split <;> decide
        rw [h1, Int.one_mul]
        exact cof_le hGb (by have := ct_lt (show bt S c from hb) hc; omega)
      · rw [if_neg hb]; decide
    have hE5 : ∀ i, i < 3 → ∀ c, c < 6 → (M5.2.2 (6 + i) c).toInt = E i c := fun i hi c hc => by rw [e5L (6 + i) (by omega)]; exact hE i hi c hc
    obtain ⟨rh, d1, d2, d3⟩ := hds (N := N) (κ := 12 + cn) (mask := mask) hN hm hκ (by omega) (M := M5) (by rw [e51]; exact h1) (fun i hi c hc => by rw [hE5 i hi c hc]; exact hEb i hi c hc) (fun c hc => by rw [hry c hc]; exact hryb c hc)
    have hexc : ∀ i, i < m → exc M5 i (12 + cn) = sm (fun c => E i c * ryv E S R c) 6 := fun i hi => sm_congr (fun c hc => by rw [hE5 i (by omega) c hc, hry c hc])
    have hd3 : rh = 1 ↔ ∀ i, i < m → bt mask i → fitS (M.2.1 0 i) (sm (fun c => E i c * ryv E S R c) 6) := d3.trans ⟨fun h i hi hb => by have := h i hi hb; rw [hexc i hi, e5A 0 (by decide)] at this; exact this, fun h i hi hb => by rw [hexc i hi, e5A 0 (by decide)]; exact h i hi hb⟩
    have hlast : f_X0_tryRay N (nI S) (nI R) (nI mask) M = if rh = 0 then some M5 else some (wI M5 2 (nI (cn + 1))) := by
      rw [hrun, if_neg hr]
      refine Eq.trans t1 (Eq.trans u1 ?_)
      rw [lp_s]
      generalize lpT (fun _ _ _ _ _ => none) (F_X0_tryRay_70 N) fu = q
      unfold F_X0_tryRay_70
      rw [if_pos (Int32.le_refl _), d1, Option.bind_some]
      dsimp only
      rw [e51, h2, nI_1]
    by_cases hh : rh = 0
    · refine ⟨M5, by rw [hlast, if_pos hh], ⟨fun k _ => by rw [e51], e5A, e5L⟩, Or.inr ⟨fun h => ?_, by rw [e51]; exact h2⟩⟩
      have := hd3.mpr h.2
      rw [this] at hh
      exact absurd hh (by decide)
    · refine ⟨wI M5 2 (nI (cn + 1)), by rw [hlast, if_neg hh], ⟨fun k hk => ?_, e5A, e5L⟩, Or.inl ⟨hok, hd3.mp (d2.resolve_left hh), pk_us (f := M5.1) (k := 2), hry⟩⟩
      show upd M5.1 2 _ k = _
      rw [pk_un hk, e51]
