theorem sm_stop {g : Nat → Int} {t : Nat} (h : ∀ p, t ≤ p → g p = 0) : ∀ {s : Nat}, t ≤ s → sm g s = sm g t
  | 0, hs => by rw [show t = 0 by omega]
  | s + 1, hs => by
    by_cases e : t = s + 1
    · rw [e]
    · show sm g s + g s = _
      rw [h s (by omega), sm_stop h (show t ≤ s by omega)]
      omega
theorem plt : pl 7 0 = 0 ∧ pl 7 1 = 1 ∧ pl 7 2 = 2 ∧ pl 3 0 = 0 ∧ pl 3 1 = 1 ∧ pl 5 0 = 0 ∧ pl 5 1 = 2 ∧ pl 6 0 = 1 ∧ pl 6 1 = 2 ∧ pl 1 0 = 0 ∧ pl 2 0 = 1 ∧ pl 4 0 = 2 := by decide +kernel
theorem cts : ct 7 6 = 3 ∧ ct 3 6 = 2 ∧ ct 5 6 = 2 ∧ ct 6 6 = 2 ∧ ct 1 6 = 1 ∧ ct 2 6 = 1 ∧ ct 4 6 = 1 ∧ ct 0 6 = 0 := by decide +kernel
/-- two rows a and b: the third cofactor is their minor -/
theorem cof_two {E : Nat → Nat → Int} {S R a b : Nat} (hR : ct R 6 = 2) (ha : pl R 0 = a) (hb : pl R 1 = b) (hS : ct S 6 = 3) : cof (GG E S R) 2 = E a (pl S 0) * E b (pl S 1) - E a (pl S 1) * E b (pl S 0) := by
  rw [cof2]
  unfold d3 GG
  rw [hR, hS, ha, hb]
  simp
  try grind
theorem cof_one {E : Nat → Nat → Int} {S R a : Nat} (hR : ct R 6 = 1) (ha : pl R 0 = a) (hS : ct S 6 = 2) : cof (GG E S R) 1 = - E a (pl S 0) := by
  rw [cof1]
  unfold d3 GG
  rw [hR, hS, ha]
  simp
theorem cof_none {E : Nat → Nat → Int} {S R : Nat} (hR : ct R 6 = 0) : cof (GG E S R) 0 = 1 := by
  rw [cof0]
  unfold d3 GG
  rw [hR]
  simp
theorem cof_all {E : Nat → Nat → Int} {S : Nat} (hS : ct S 6 = 4) : cof (GG E S 7) 3 = - d3 (fun i q => E i (pl S q)) 0 1 2 := by
  rw [cof3]
  unfold d3 GG
  rw [cts.1, hS, plt.1, plt.2.1, plt.2.2.1]
  simp
theorem msk_lt : ∀ m, m ≤ 3 → (0 < m → 1 < 2 ^ m) ∧ (1 < m → 2 < 2 ^ m ∧ 3 < 2 ^ m) ∧ (2 < m → 4 < 2 ^ m ∧ 5 < 2 ^ m ∧ 6 < 2 ^ m ∧ 7 < 2 ^ m) := by decide
theorem bts : ∀ R, R < 8 → ∀ i, i < 3 → (bt R i ↔ R / 2 ^ i % 2 = 1) := fun R _ i _ => Iff.rfl
set_option maxHeartbeats 1000000 in
theorem ext_cand {n m mask : Nat} (hn : n ≤ 4) (hm : m ≤ 3) {E : Nat → Nat → Int} {sn : Nat → Int32} {z : Nat → Int} (h : EXT n m mask E sn z) :
    ∃ S R, cand n m mask E sn S R ∧ (∀ c, c < 6 → (bt S c ↔ 0 < z c)) ∧ ∀ c c', c < 6 → c' < 6 → z c * ryv E S R c' = z c' * ryv E S R c := by
  have h64 := pow6 n hn
  obtain ⟨S, hS, hb0⟩ := mkp (fun c => 0 < z c) (2 + n)
  have hb : ∀ c, c < 6 → (bt S c ↔ 0 < z c) := fun c hc => by
    by_cases e : c < 2 + n
    · exact hb0 c e
    · have := h.2.1 c (by omega) hc
      exact ⟨fun q => absurd q (bt_hi' hS (by omega)), fun q => by omega⟩
  have hS' : S < 64 := by omega
  obtain ⟨T, hT, hTb⟩ := mkp (fun i => i < m ∧ bt mask i ∧ exE E i z = 0) 3
  have hz0 : ∀ c, c < 6 → ¬ bt S c → z c = 0 := fun c hc hn => by
    have := h.1 c hc
    have := (hb c hc).mpr
    by_cases e : 0 < z c
    · exact absurd (this e) hn
    · omega
  have hz1 : ∀ c, c < 6 → z c = 0 → ¬ bt S c := fun c hc e hbt => by
    have := (hb c hc).mp hbt
    omega
  obtain ⟨f, hf⟩ : ∃ f : Nat → Nat → Int, f = fun i q => if T / 2 ^ i % 2 = 1 then E i (pl S q) else 0 := ⟨_, rfl⟩
  have fin : ∀ i q, bt T i → f i q = E i (pl S q) := fun i q ht => by rw [hf]; exact if_pos ht
  have fout : ∀ i q, ¬ bt T i → f i q = 0 := fun i q ht => by rw [hf]; exact if_neg ht
  have K : ∀ u : Nat → Int, (∀ q, 4 ≤ q → u q = 0) → (∀ q, ct S 6 ≤ q → u q = 0) → (∀ i, i < 3 → f i 0 * u 0 + f i 1 * u 1 + f i 2 * u 2 + f i 3 * u 3 = 0) → ∀ q', q' < ct S 6 → u q' = 0 → ∀ q, q < ct S 6 → u q = 0 := by
    intro u u4 us hrow q' hq' e' q hq
    obtain ⟨y, hy⟩ : ∃ y : Nat → Int, y = fun c => if S / 2 ^ c % 2 = 1 then u (ct S c) else 0 := ⟨_, rfl⟩
    have yin : ∀ c, bt S c → y c = u (ct S c) := fun c hc => by rw [hy]; exact if_pos hc
    have yout : ∀ c, ¬ bt S c → y c = 0 := fun c hc => by rw [hy]; exact if_neg hc
    have hex : ∀ i, i < m → bt mask i → exE E i z = 0 → exE E i y = 0 := fun i hi hbi he => by
      have hTi : bt T i := (hTb i (by omega)).mpr ⟨hi, hbi, he⟩
      have r := hrow i (by omega)
      rw [fin i 0 hTi, fin i 1 hTi, fin i 2 hTi, fin i 3 hTi] at r
      unfold exE
      rw [sm_pl hS' (g := fun c => E i c * y c) (fun c _ hc => by rw [yout c hc, Int.mul_zero]) 6 (Nat.le_refl _)]
      rw [sm_congr (g := fun p => E i (pl S p) * u p) (fun p hp => by
        obtain ⟨a, b, c⟩ := pl_ok hS' hp
        show E i (pl S p) * y (pl S p) = _
        rw [yin _ b, c])]
      have s4 := sm4 (fun p => E i (pl S p) * u p)
      by_cases e : ct S 6 ≤ 4
      · rw [← sm_stop (g := fun p => E i (pl S p) * u p) (t := ct S 6) (fun p hp => by show _ * u p = 0; rw [us p hp, Int.mul_zero]) e, s4]
        exact r
      · rw [sm_stop (g := fun p => E i (pl S p) * u p) (t := 4) (fun p hp => by show _ * u p = 0; rw [u4 p hp, Int.mul_zero]) (by omega), s4]
        exact r
    have par := h.2.2.2.2 y (fun c hc e => yout c (hz1 c hc e)) hex
    obtain ⟨a, b, c⟩ := pl_ok hS' hq
    obtain ⟨a', b', c'⟩ := pl_ok hS' hq'
    have e := par _ _ a a'
    rw [yin _ b, c, yin _ b', c', e', Int.zero_mul] at e
    have := (hb _ a').mp b'
    rcases Int.mul_eq_zero.mp e with h | h
    · exact h
    · omega
  have s1 : 1 ≤ ct S 6 := by
    obtain ⟨c, hc, hne⟩ := h.2.2.2.1
    have h0 := h.1 c hc
    have := ct_lt ((hb c hc).mpr (by omega)) hc
    omega
  have tight : ∀ i, i < 3 → (∃ q, f i q ≠ 0) → bt T i := fun i hi ⟨q, hq⟩ => by
    by_cases e : bt T i
    · exact e
    · exact absurd (fout i q e) hq
  have done : ∀ R, R < 8 → R < 2 ^ m → ct R 6 + 1 = ct S 6 → (∀ i, i < 3 → bt R i → bt T i) → (∃ q, q < ct S 6 ∧ cof (GG E S R) q ≠ 0) → ∃ S R, cand n m mask E sn S R ∧ (∀ c, c < 6 → (bt S c ↔ 0 < z c)) ∧ ∀ c c', c < 6 → c' < 6 → z c * ryv E S R c' = z c' * ryv E S R c := fun R h1 h2 h3 h4 h5 => by
    have := ext_fin hn hm h hS hb h2 h3 (fun i hi hbi => (hTb i hi).mp (h4 i hi hbi)) h5
    exact ⟨S, R, this.1, hb, this.2⟩
  have ml := msk_lt m hm
  have Tm : ∀ i, i < 3 → bt T i → i < m := fun i hi ht => ((hTb i hi).mp ht).1
  by_cases s2 : ct S 6 = 1
  · exact done 0 (by decide) (Nat.two_pow_pos m) (by rw [cts.2.2.2.2.2.2.2, s2]) (fun i _ hb => by unfold bt at hb; rw [Nat.zero_div] at hb; cases hb) ⟨0, by omega, by rw [cof_none cts.2.2.2.2.2.2.2]; decide⟩
  by_cases s3 : ct S 6 = 2
  · have KK : KER 2 f := fun u hu hr q' hq' e q hq => K u (fun k hk => hu k (by omega)) (fun k hk => hu k (by omega)) hr q' (by omega) e q (by omega)
    have : ∃ a, a < 3 ∧ f a 0 ≠ 0 := Classical.byContradiction (fun hno => ker_d (by omega) KK (fun a ha => Classical.byContradiction (fun hne => hno ⟨a, ha, hne⟩)))
    obtain ⟨a, ha, hne⟩ := this
    have ta := tight a ha ⟨0, hne⟩
    rw [fin a 0 ta] at hne
    have ma := Tm a ha ta
    rcases lt3 ha with rfl | rfl | rfl
    · exact done 1 (by decide) (ml.1 ma) (by rw [cts.2.2.2.2.1, s3]) (fun i hi hb => by
        rcases lt3 hi with rfl | rfl | rfl
        · exact ta
        · exact absurd hb (by unfold bt; decide)
        · exact absurd hb (by unfold bt; decide)) ⟨1, by omega, by rw [cof_one cts.2.2.2.2.1 plt.2.2.2.2.2.2.2.2.2.1 s3]; omega⟩
    · exact done 2 (by decide) (ml.2.1 ma).1 (by rw [cts.2.2.2.2.2.1, s3]) (fun i hi hb => by
        rcases lt3 hi with rfl | rfl | rfl
        · exact absurd hb (by unfold bt; decide)
        · exact ta
        · exact absurd hb (by unfold bt; decide)) ⟨1, by omega, by rw [cof_one cts.2.2.2.2.2.1 plt.2.2.2.2.2.2.2.2.2.2.1 s3]; omega⟩
    · exact done 4 (by decide) (ml.2.2 ma).1 (by rw [cts.2.2.2.2.2.2.1, s3]) (fun i hi hb => by
        rcases lt3 hi with rfl | rfl | rfl
        · exact absurd hb (by unfold bt; decide)
        · exact absurd hb (by unfold bt; decide)
        · exact ta) ⟨1, by omega, by rw [cof_one cts.2.2.2.2.2.2.1 plt.2.2.2.2.2.2.2.2.2.2.2 s3]; omega⟩
  by_cases s4 : ct S 6 = 3
  · have KK : KER 3 f := fun u hu hr q' hq' e q hq => K u (fun k hk => hu k (by omega)) (fun k hk => hu k (by omega)) hr q' (by omega) e q (by omega)
    have : ∃ a b, a < b ∧ b < 3 ∧ mn f a b 0 1 ≠ 0 := Classical.byContradiction (fun hno => ker_c (by omega) KK (fun a b ha hb => by
      rcases Nat.lt_trichotomy a b with l | l | l
      · exact Classical.byContradiction (fun hne => hno ⟨a, b, l, hb, hne⟩)
      · rw [l]; exact mn_same _ _ _ _
      · rw [mn_swap, Classical.byContradiction (fun hne => hno ⟨b, a, l, ha, hne⟩)]; rfl))
    obtain ⟨a, b, hab, hb3, hne⟩ := this
    have ta := tight a (by omega) (Classical.byContradiction (fun hno => hne (by
      have z : ∀ q, f a q = 0 := fun q => Classical.byContradiction (fun hh => hno ⟨q, hh⟩)
      unfold mn; rw [z 0, z 1]; simp)))
    have tb := tight b hb3 (Classical.byContradiction (fun hno => hne (by
      have z : ∀ q, f b q = 0 := fun q => Classical.byContradiction (fun hh => hno ⟨q, hh⟩)
      unfold mn; rw [z 0, z 1]; simp)))
    unfold mn at hne
    rw [fin a 0 ta, fin a 1 ta, fin b 0 tb, fin b 1 tb] at hne
    have mb := Tm b hb3 tb
    have cases3 : (a = 0 ∧ b = 1) ∨ (a = 0 ∧ b = 2) ∨ (a = 1 ∧ b = 2) := by omega
    rcases cases3 with ⟨rfl, rfl⟩ | ⟨rfl, rfl⟩ | ⟨rfl, rfl⟩
    · exact done 3 (by decide) (ml.2.1 mb).2 (by rw [cts.2.1, s4]) (fun i hi hb => by
        rcases lt3 hi with rfl | rfl | rfl
        · exact ta
        · exact tb
        · exact absurd hb (by unfold bt; decide)) ⟨2, by omega, by rw [cof_two cts.2.1 plt.2.2.2.1 plt.2.2.2.2.1 s4]; exact hne⟩
    · exact done 5 (by decide) (ml.2.2 mb).2.1 (by rw [cts.2.2.1, s4]) (fun i hi hb => by
        rcases lt3 hi with rfl | rfl | rfl
        · exact ta
        · exact absurd hb (by unfold bt; decide)
        · exact tb) ⟨2, by omega, by rw [cof_two cts.2.2.1 plt.2.2.2.2.2.1 plt.2.2.2.2.2.2.1 s4]; exact hne⟩
    · exact done 6 (by decide) (ml.2.2 mb).2.2.1 (by rw [cts.2.2.2.1, s4]) (fun i hi hb => by
        rcases lt3 hi with rfl | rfl | rfl
        · exact absurd hb (by unfold bt; decide)
        · exact ta
        · exact tb) ⟨2, by omega, by rw [cof_two cts.2.2.2.1 plt.2.2.2.2.2.2.2.1 plt.2.2.2.2.2.2.2.2.1 s4]; exact hne⟩
  have KK : KER 4 f := fun u hu hr q' hq' e q hq => K u (fun k hk => hu k (by omega)) (fun k hk => hu k (by omega)) hr q' (by omega) e q (by omega)
  have hd : d3 f 0 1 2 ≠ 0 := fun e => ker_b KK e
  by_cases s5 : ct S 6 = 4
  · have tt : ∀ i, i < 3 → bt T i := fun i hi => tight i hi (Classical.byContradiction (fun hno => hd (by
      have z : ∀ q, f i q = 0 := fun q => Classical.byContradiction (fun hh => hno ⟨q, hh⟩)
      unfold d3
      rcases lt3 hi with rfl | rfl | rfl <;> rw [z 0, z 1, z 2] <;> simp)))
    have ef : d3 f 0 1 2 = d3 (fun i q => E i (pl S q)) 0 1 2 := by
      unfold d3
      have t0 := tt 0 (by decide)
      have t1 := tt 1 (by decide)
      have t2 := tt 2 (by decide)
      simp only [fin 0 _ t0, fin 1 _ t1, fin 2 _ t2]
    exact done 7 (by decide) (ml.2.2 (Tm 2 (by decide) (tt 2 (by decide)))).2.2.2 (by rw [cts.1, s5]) (fun i hi _ => tt i hi) ⟨3, by omega, by rw [cof_all s5, ← ef]; omega⟩
  · have := K (fun q => if q < 4 then cof f q else 0) (fun q hq => if_neg (by omega)) (fun q hq => if_neg (by omega)) (fun i hi => by
      have := cof_ker f hi
      rw [sm4] at this
      simpa using this) 4 (by omega) rfl 3 (by omega)
    have e3 : cof f 3 = 0 := this
    rw [cof3] at e3
    exact absurd (show d3 f 0 1 2 = 0 by omega) hd
