/-! THE CLASS: its cone's small methods -/
set_option maxRecDepth 100000 in
theorem bc_tab : ∀ x, x < 64 → (f_J6_bitCount_0f7a4 0 (nI x) M00).map (fun q => q.1) = some (nI (ct x 6)) := by decide +kernel
theorem bcnt {N x : Nat} {M : Mm} (hx : x < 64) : f_J6_bitCount_0f7a4 N (nI x) M = some (nI (ct x 6), M) := by
  have h : f_J6_bitCount_0f7a4 N (nI x) M = some (((f_J6_bitCount_0f7a4 0 (nI x) M00).map (fun q => q.1)).getD 0, M) := rfl
  rw [h, bc_tab x hx]
  rfl
theorem lnG : ∀ l, l < 3 → lnL (9 + l) = 4 := by decide
theorem lnO1 : lnO 1 = 3 := by decide
theorem lnA4 : lnA 4 = 4 := by decide
theorem lnL0 : lnL 0 = 4 := by decide
theorem rO1 {i : Nat} (h : i < 3) : rO 1 (nI i) = some (9 + i) := rO_i (k := 1) (by rw [lnO1]; exact h)
def d3 (G : Nat → Nat → Int) (p q r : Nat) : Int := G 0 p * (G 1 q * G 2 r - G 1 r * G 2 q) - G 0 q * (G 1 p * G 2 r - G 1 r * G 2 p) + G 0 r * (G 1 p * G 2 q - G 1 q * G 2 p)
def cof (G : Nat → Nat → Int) (g : Nat) : Int := if g = 0 then d3 G 1 2 3 else if g = 1 then - d3 G 0 2 3 else if g = 2 then d3 G 0 1 3 else - d3 G 0 1 2
def gr (M : Mm) (l p : Nat) : Int := (M.2.2 (9 + l) p).toInt
theorem m2 {a b : Int64} (ha : ab a.toInt ≤ 59) (hb : ab b.toInt ≤ 59) : (a * b).toInt = a.toInt * b.toInt ∧ ab (a.toInt * b.toInt) ≤ 59 * 59 := by
  have h := mulle ha hb
  exact ⟨Kit.i64_mul (by omega) (by omega), ab_le.mpr h⟩
theorem d3_64 {t m l : Nat → Int64} (ht : ∀ p, p < 4 → ab (t p).toInt ≤ 59) (hm : ∀ p, p < 4 → ab (m p).toInt ≤ 59) (hl : ∀ p, p < 4 → ab (l p).toInt ≤ 59) {p q r : Nat} (hp : p < 4) (hq : q < 4) (hr : r < 4) :
    (t p * (m q * l r - m r * l q) - t q * (m p * l r - m r * l p) + t r * (m p * l q - m q * l p)).toInt = (t p).toInt * ((m q).toInt * (l r).toInt - (m r).toInt * (l q).toInt) - (t q).toInt * ((m p).toInt * (l r).toInt - (m r).toInt * (l p).toInt) + (t r).toInt * ((m p).toInt * (l q).toInt - (m q).toInt * (l p).toInt) ∧ ab ((t p).toInt * ((m q).toInt * (l r).toInt - (m r).toInt * (l q).toInt) - (t q).toInt * ((m p).toInt * (l r).toInt - (m r).toInt * (l p).toInt) + (t r).toInt * ((m p).toInt * (l q).toInt - (m q).toInt * (l p).toInt)) ≤ 2 ^ 21 := by
  have sub2 : ∀ a b : Nat, a < 4 → b < 4 → (m a * l b - m b * l a).toInt = (m a).toInt * (l b).toInt - (m b).toInt * (l a).toInt ∧ ab ((m a).toInt * (l b).toInt - (m b).toInt * (l a).toInt) ≤ 2 * (59 * 59) := by
    intro a b ha hb
    obtain ⟨e1, b1⟩ := m2 (hm a ha) (hl b hb)
    obtain ⟨e2, b2⟩ := m2 (hm b hb) (hl a ha)
    have c1 := ab_le.mp b1
    have c2 := ab_le.mp b2
    exact ⟨by rw [Kit.i64_sub (by rw [e1, e2]; omega) (by rw [e1, e2]; omega), e1, e2], ab_le.mpr (by omega)⟩
  have m3 : ∀ (x : Int64) (y : Int64) (Y : Int), ab x.toInt ≤ 59 → y.toInt = Y → ab Y ≤ 2 * (59 * 59) → (x * y).toInt = x.toInt * Y ∧ -(59 * (2 * (59 * 59))) ≤ x.toInt * Y ∧ x.toInt * Y ≤ 59 * (2 * (59 * 59)) := by
    intro x y Y hx hy hY
    have h := mulle hx hY
    exact ⟨by rw [Kit.i64_mul (by rw [hy]; omega) (by rw [hy]; omega), hy], h⟩
  obtain ⟨e1, f1⟩ := sub2 q r hq hr
  obtain ⟨e2, f2⟩ := sub2 p r hp hr
  obtain ⟨e3, f3⟩ := sub2 p q hp hq
  obtain ⟨g1, k1⟩ := m3 (t p) _ _ (ht p hp) e1 f1
  obtain ⟨g2, k2⟩ := m3 (t q) _ _ (ht q hq) e2 f2
  obtain ⟨g3, k3⟩ := m3 (t r) _ _ (ht r hr) e3 f3
  have s1 : (t p * (m q * l r - m r * l q) - t q * (m p * l r - m r * l p)).toInt = (t p).toInt * ((m q).toInt * (l r).toInt - (m r).toInt * (l q).toInt) - (t q).toInt * ((m p).toInt * (l r).toInt - (m r).toInt * (l p).toInt) := by
    rw [Kit.i64_sub (by rw [g1, g2]; omega) (by rw [g1, g2]; omega), g1, g2]
  exact ⟨by rw [Kit.i64_add (by rw [s1, g3]; omega) (by rw [s1, g3]; omega), s1, g3], ab_le.mpr (by omega)⟩
theorem cof31 {N : Nat} {M : Mm} {x1 : Int32} {p q r : Nat} (hp : p < 4) (hq : q < 4) (hr : r < 4) : b_X0_cofactor_31 N x1 (nI p) (nI q) (nI r) M = (if (x1 - x1 / 2 * 2) = 0 then some (M.2.2 9 p * (M.2.2 10 q * M.2.2 11 r - M.2.2 10 r * M.2.2 11 q) - M.2.2 9 q * (M.2.2 10 p * M.2.2 11 r - M.2.2 10 r * M.2.2 11 p) + M.2.2 9 r * (M.2.2 10 p * M.2.2 11 q - M.2.2 10 q * M.2.2 11 p), M) else some (-(M.2.2 9 p * (M.2.2 10 q * M.2.2 11 r - M.2.2 10 r * M.2.2 11 q) - M.2.2 9 q * (M.2.2 10 p * M.2.2 11 r - M.2.2 10 r * M.2.2 11 p) + M.2.2 9 r * (M.2.2 10 p * M.2.2 11 q - M.2.2 10 q * M.2.2 11 p)), M)) := by
  have e9 : ∀ c, c < 4 → rL M 9 (nI c) = some (M.2.2 9 c) := fun c hc => rL_i (by rw [lnG 0 (by decide)]; exact hc)
  have e10 : ∀ c, c < 4 → rL M 10 (nI c) = some (M.2.2 10 c) := fun c hc => rL_i (by rw [lnG 1 (by decide)]; exact hc)
  have e11 : ∀ c, c < 4 → rL M 11 (nI c) = some (M.2.2 11 c) := fun c hc => rL_i (by rw [lnG 2 (by decide)]; exact hc)
  unfold b_X0_cofactor_31
  rw [show rO 1 0 = some 9 from rO1 (i := 0) (by decide), show rO 1 1 = some 10 from rO1 (i := 1) (by decide), show rO 1 2 = some 11 from rO1 (i := 2) (by decide)]
  simp only [Option.bind_some, e9 p hp, e9 q hq, e9 r hr, e10 p hp, e10 q hq, e10 r hr, e11 p hp, e11 q hq, e11 r hr]
  rw [if_neg (by decide)]
theorem cof_s {N g : Nat} (hg : g < 4) {M : Mm} (hG : ∀ l, l < 3 → ∀ p, p < 4 → ab (gr M l p) ≤ 59) : ∃ x : Int64, f_X0_cofactor N (nI g) M = some (x, M) ∧ x.toInt = cof (gr M) g ∧ ab x.toInt ≤ 2 ^ 21 := by
  have D : ∀ p q r, p < 4 → q < 4 → r < 4 → (M.2.2 9 p * (M.2.2 10 q * M.2.2 11 r - M.2.2 10 r * M.2.2 11 q) - M.2.2 9 q * (M.2.2 10 p * M.2.2 11 r - M.2.2 10 r * M.2.2 11 p) + M.2.2 9 r * (M.2.2 10 p * M.2.2 11 q - M.2.2 10 q * M.2.2 11 p)).toInt = d3 (gr M) p q r ∧ ab (d3 (gr M) p q r) ≤ 2 ^ 21 := fun p q r hp hq hr => d3_64 (t := M.2.2 9) (m := M.2.2 10) (l := M.2.2 11) (hG 0 (by decide)) (hG 1 (by decide)) (hG 2 (by decide)) hp hq hr
  have neg : ∀ x : Int64, ab x.toInt ≤ 2 ^ 21 → (-x).toInt = -x.toInt := fun x hx => by
    have := ab_le.mp hx
    exact Kit.i64_neg (by omega)
  match g, hg with
  | 0, _ =>
    obtain ⟨e, b⟩ := D 1 2 3 (by decide) (by decide) (by decide)
    refine ⟨_, (show f_X0_cofactor N (nI 0) M = b_X0_cofactor_31 N (nI 0) (nI 1) (nI 2) (nI 3) M from ?_).trans ((cof31 (by decide) (by decide) (by decide)).trans (if_pos (by decide))), e, by rw [e]; exact b⟩
    unfold f_X0_cofactor b_X0_cofactor_0
    rw [if_pos (by decide)]
    unfold b_X0_cofactor_9
    rw [if_pos (by decide)]
    unfold b_X0_cofactor_20
    rw [if_pos (by decide)]
    rfl
  | 1, _ =>
    obtain ⟨e, b⟩ := D 0 2 3 (by decide) (by decide) (by decide)
    refine ⟨_, (show f_X0_cofactor N (nI 1) M = b_X0_cofactor_31 N (nI 1) (nI 0) (nI 2) (nI 3) M from ?_).trans ((cof31 (by decide) (by decide) (by decide)).trans (if_neg (by decide))), by rw [neg _ (by rw [e]; exact b), e]; rfl, by rw [neg _ (by rw [e]; exact b), ab_neg, e]; exact b⟩
    unfold f_X0_cofactor b_X0_cofactor_0
    rw [if_neg (by decide)]
    unfold b_X0_cofactor_9
    rw [if_pos (by decide)]
    unfold b_X0_cofactor_20
    rw [if_pos (by decide)]
    rfl
  | 2, _ =>
    obtain ⟨e, b⟩ := D 0 1 3 (by decide) (by decide) (by decide)
    refine ⟨_, (show f_X0_cofactor N (nI 2) M = b_X0_cofactor_31 N (nI 2) (nI 0) (nI 1) (nI 3) M from ?_).trans ((cof31 (by decide) (by decide) (by decide)).trans (if_pos (by decide))), e, by rw [e]; exact b⟩
    unfold f_X0_cofactor b_X0_cofactor_0
    rw [if_neg (by decide)]
    unfold b_X0_cofactor_9
    rw [if_neg (by decide)]
    unfold b_X0_cofactor_20
    rw [if_pos (by decide)]
    rfl
  | 3, _ =>
    obtain ⟨e, b⟩ := D 0 1 2 (by decide) (by decide) (by decide)
    refine ⟨_, (show f_X0_cofactor N (nI 3) M = b_X0_cofactor_31 N (nI 3) (nI 0) (nI 1) (nI 2) M from ?_).trans ((cof31 (by decide) (by decide) (by decide)).trans (if_neg (by decide))), by rw [neg _ (by rw [e]; exact b), e]; rfl, by rw [neg _ (by rw [e]; exact b), ab_neg, e]; exact b⟩
    unfold f_X0_cofactor b_X0_cofactor_0
    rw [if_neg (by decide)]
    unfold b_X0_cofactor_9
    rw [if_neg (by decide)]
    unfold b_X0_cofactor_20
    rw [if_neg (by decide)]
    rfl
set_option maxHeartbeats 1000000 in
theorem plc_loop {N S : Nat} (hS : S < 64) (h4 : ct S 6 ≤ 4) : ∀ (d c fuel : Nat) (M : Mm), c + d = 6 → d < fuel →
    ∃ M', lpT (fun _ _ _ _ => none) (F_X0_placeColumns_4 N) fuel (nI S) (nI (ct S c)) (nI c) M = some (nI (ct S 6), M') ∧ M'.1 = M.1 ∧ M'.2.2 = M.2.2 ∧ (∀ k, k ≠ 4 → M'.2.1 k = M.2.1 k) ∧ (∀ i, i < ct S c → M'.2.1 4 i = M.2.1 4 i) ∧ ∀ c', c ≤ c' → c' < 6 → bt S c' → M'.2.1 4 (ct S c') = nI c' := by
  intro d
  induction d with
  | zero =>
    intro c fuel M hc hf
    obtain ⟨g, rfl, -⟩ := fuel_s hf
    have hc6 : c = 6 := by omega
    subst hc6
    refine ⟨M, ?_, rfl, rfl, fun _ _ => rfl, fun _ _ => rfl, fun c' a b => by omega⟩
    rw [lp_s]
    unfold F_X0_placeColumns_4
    rw [if_pos (by decide)]
  | succ d ih =>
    intro c fuel M hc hf
    obtain ⟨g, rfl, hg⟩ := fuel_s hf
    have hct : ct S (c + 1) = ct S c + S / 2 ^ c % 2 := rfl
    have hle := ct_le S c
    by_cases hb : bt S c
    · have hb1 : S / 2 ^ c % 2 = 1 := hb
      have hlt := ct_lt hb (show c < 6 by omega)
      obtain ⟨M', h1, h2, h3, h5, h6, h7⟩ := ih (c + 1) g (sA M 4 (ct S c) (nI c)) (by omega) (by omega)
      refine ⟨M', ?_, h2, h3, fun k hk => (h5 k hk).trans (sA_ne hk), fun i hi => ?_, fun c' a b e => ?_⟩
      · rw [← h1, lp_s, hct, hb1]
        generalize lpT (fun _ _ _ _ => none) (F_X0_placeColumns_4 N) g = q
        unfold F_X0_placeColumns_4
        rw [if_neg (fun h => by have := (nI_leI (a := 6) (by omega) (by omega)).mp h; omega), if_pos ((bitq (by omega) (by omega)).mpr hb), if_neg (fun h => by have := (nI_leI (a := 4) (by omega) (by omega)).mp h; omega), wA_i (by rw [lnA4]; omega), Option.bind_some, nI_1, nI_1]
      · rw [h6 i (by omega), sA_at, if_neg (by omega)]
      · by_cases e' : c' = c
        · subst e'
          rw [h6 _ (by omega), sA_at, if_pos ⟨rfl, rfl⟩]
        · exact h7 c' (by omega) b e
    · have hb1 : S / 2 ^ c % 2 = 0 := by
        have : S / 2 ^ c % 2 < 2 := Nat.mod_lt _ (by decide)
        unfold bt at hb
        omega
      obtain ⟨M', h1, h2, h3, h5, h6, h7⟩ := ih (c + 1) g M (by omega) (by omega)
      refine ⟨M', ?_, h2, h3, h5, fun i hi => h6 i (by omega), fun c' a b e => h7 c' (by
        have : c' ≠ c := fun q => hb (q ▸ e)
        omega) b e⟩
      rw [← h1, lp_s, hct, hb1]
      generalize lpT (fun _ _ _ _ => none) (F_X0_placeColumns_4 N) g = q
      unfold F_X0_placeColumns_4
      rw [if_neg (fun h => by have := (nI_leI (a := 6) (by omega) (by omega)).mp h; omega), if_neg (fun h => hb ((bitq (by omega) (by omega)).mp h)), nI_1]
      rfl
theorem plc {N S : Nat} (hN : 10 ≤ N) (hS : S < 64) (h4 : ct S 6 ≤ 4) (M : Mm) : ∃ M', f_X0_placeColumns N (nI S) M = some (nI (ct S 6), M') ∧ M'.1 = M.1 ∧ M'.2.2 = M.2.2 ∧ (∀ k, k ≠ 4 → M'.2.1 k = M.2.1 k) ∧ ∀ c, c < 6 → bt S c → M'.2.1 4 (ct S c) = nI c := by
  obtain ⟨M', h1, h2, h3, h5, -, h7⟩ := plc_loop (N := N) hS h4 6 0 N M (by omega) (by omega)
  exact ⟨M', h1, h2, h3, h5, fun c hc hb => h7 c (Nat.zero_le _) hc hb⟩
