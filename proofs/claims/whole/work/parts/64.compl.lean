section Mc
variable {x2 : Int32} {n m mask w B : Nat} {a : Nat → Nat → Int} {b e : Nat → Int} {sn : Nat → Int32} {bb : Nat → Nat → Int} {br : Nat → Int} {bs : Nat → Int32}
theorem ct_bit {p k : Nat} (h : bt p k) : ct p (k + 1) = ct p k + 1 := by
  show ct p k + p / 2 ^ k % 2 = _
  unfold bt at h; omega
theorem ct_nbit {p k : Nat} (h : ¬ bt p k) : ct p (k + 1) = ct p k := by
  show ct p k + p / 2 ^ k % 2 = _
  unfold bt at h; omega
theorem ct_two {S : Nat} : ct S 2 = (if S / 2 ^ 0 % 2 = 1 then 1 else 0) + (if S / 2 ^ 1 % 2 = 1 then 1 else 0) := by
  show 0 + S / 2 ^ 0 % 2 + S / 2 ^ 1 % 2 = _
  split <;> split <;> omega
set_option maxHeartbeats 1000000 in
theorem mb_compl (hn : n ≤ 4) (hm : m ≤ 3) (hmk : mask < 2 ^ m) (hM : MBD x2 n m mask a b e sn w B bb br bs) {S R : Nat} (hc : cand n m mask (Eof a b e) sn S R) (hV : VV x2 n (ryv (Eof a b e) S R)) (hD : 0 < DD x2 n (ryv (Eof a b e) S R)) :
    ∃ p, p < 2 ^ B ∧ ct p B = w ∧ only0 w B bb p ∧ sharp w B bb br p (XX n (ryv (Eof a b e) S R)) (DD x2 n (ryv (Eof a b e) S R)) ∧ ∀ k, k < B → fitS (bs k) (exs w bb br k (XX n (ryv (Eof a b e) S R)) (DD x2 n (ryv (Eof a b e) S R))) := by
  have hw5 : w ≤ 5 := by rcases x2c hM.1 with ⟨-, h⟩ | ⟨-, h⟩ | ⟨-, h⟩ <;> omega
  have h64 := pow6 n hn
  have h8 := pow3 m hm
  obtain ⟨c1, c2, c3, c4, c5, c6⟩ := hc
  have hS' : S < 64 := by omega
  have hR' : R < 8 := by omega
  have h3 : ct R 6 ≤ 3 := by rw [← ct_m m hm R c2]; exact Nat.le_trans (ct_le R m) hm
  have h4 : ct S 6 ≤ 4 := by omega
  obtain ⟨ρ, hρ⟩ : ∃ ρ, ρ = ryv (Eof a b e) S R := ⟨_, rfl⟩
  rw [← hρ] at hV hD ⊢
  have hB : ct mask m + w ≤ B := by
    have := hM.2.1
    split at this <;> omega
  have on : ∀ c, c < 6 → (bt S c ↔ ρ c ≠ 0) := fun c hc => by
    refine ⟨fun h => ?_, fun h => Classical.byContradiction (fun hno => h (by rw [hρ]; exact ray_off hno))⟩
    have := ray_pos c5 hc h
    rw [← hρ] at this
    omega
  have nn : ∀ c, c < 6 → 0 ≤ ρ c := fun c hc => by
    by_cases h : bt S c
    · have := ray_pos c5 hc h
      rw [← hρ] at this
      omega
    · rw [hρ, ray_off h]; exact Int.le_refl _
  have hsR : ∀ i, i < 3 → bt R i → exE (Eof a b e) i ρ = 0 := fun i hi hb => by rw [hρ]; exact ray_sharp hS' hR' c4 h4 hi hb
  have Rm : ∀ i, bt R i → i < m := fun i hb => Classical.byContradiction (fun hno => bt_hi' c2 (show m ≤ i by omega) hb)
  obtain ⟨p, hp, hpb⟩ := mkp (fun k => (∃ i, i < m ∧ bt mask i ∧ k = ct mask i ∧ bt R i) ∨ (∃ j, j < w ∧ k = ct mask m + j ∧ XX n ρ j = 0) ∨ (k = ct mask m + w ∧ (x2 = 1 ∨ ρ 0 = 0))) B
  have p1 : ∀ i, i < m → bt mask i → (bt p (ct mask i) ↔ bt R i) := fun i hi hb => by
    have hlt := ct_lt hb hi
    refine (hpb _ (by omega)).trans ⟨fun h => ?_, fun h => Or.inl ⟨i, hi, hb, rfl, h⟩⟩
    rcases h with ⟨i', h1, h2, h3, h4⟩ | ⟨j, h1, h2, -⟩ | ⟨h1, -⟩
    · rw [ct_inj hb h2 h3]; exact h4
    · omega
    · omega
  have p2 : ∀ j, j < w → (bt p (ct mask m + j) ↔ XX n ρ j = 0) := fun j hj => by
    refine (hpb _ (by omega)).trans ⟨fun h => ?_, fun h => Or.inr (Or.inl ⟨j, hj, rfl, h⟩)⟩
    rcases h with ⟨i', h1, h2, h3, h4⟩ | ⟨j', h1, h2, h3⟩ | ⟨h1, -⟩
    · have := ct_lt h2 h1; omega
    · rw [show j = j' by omega]; exact h3
    · omega
  have p3 : x2 ≠ 0 → (bt p (ct mask m + w) ↔ (x2 = 1 ∨ ρ 0 = 0)) := fun hx => by
    have := hM.2.1
    rw [if_neg hx] at this
    refine (hpb _ (by omega)).trans ⟨fun h => ?_, fun h => Or.inr (Or.inr ⟨rfl, h⟩)⟩
    rcases h with ⟨i', h1, h2, h3, h4⟩ | ⟨j', h1, h2, h3⟩ | ⟨h1, h⟩
    · have := ct_lt h2 h1; omega
    · omega
    · exact h
  have k1 : ∀ i, i ≤ m → ct p (ct mask i) = ct R i := by
    intro i
    induction i with
    | zero => intro _; rfl
    | succ i ih =>
      intro hi
      have ih := ih (by omega)
      by_cases hb : bt mask i
      · rw [ct_bit hb]
        by_cases hr : bt R i
        · rw [ct_bit hr, ct_bit ((p1 i (by omega) hb).mpr hr), ih]
        · rw [ct_nbit hr, ct_nbit (fun h => hr ((p1 i (by omega) hb).mp h)), ih]
      · rw [ct_nbit hb, ct_nbit (fun h => hb (c3 i (by omega) h)), ih]
  have k2 : ∀ j, j ≤ n → ct p (ct mask m + j) + ct S (2 + j) = ct R m + ct S 2 + j := by
    intro j
    induction j with
    | zero => intro _; rw [Nat.add_zero, k1 m (Nat.le_refl _)]; rfl
    | succ j ih =>
      intro hj
      have ih := ih (by omega)
      have hjw : j < w := by rcases x2c hM.1 with ⟨-, h⟩ | ⟨-, h⟩ | ⟨-, h⟩ <;> omega
      have hX : XX n ρ j = ρ (2 + j) := by unfold XX; rw [if_pos (by omega)]
      have h2 := p2 j hjw
      rw [hX] at h2
      rw [← Nat.add_assoc, ← Nat.add_assoc]
      by_cases h : bt S (2 + j)
      · rw [ct_bit h, ct_nbit (fun q => (on _ (by omega)).mp h (h2.mp q))]
        omega
      · rw [ct_nbit h, ct_bit (h2.mpr (Classical.byContradiction (fun q => h ((on _ (by omega)).mpr q))))]
        omega
  have k2n := k2 n (Nat.le_refl _)
  have eS : ct S (2 + n) = ct S 6 := by
    have := ct_hi c1 (6 - (2 + n))
    rw [show 2 + n + (6 - (2 + n)) = 6 by omega] at this
    exact this.symm
  have eR := ct_m m hm R c2
  have b0 : S / 2 ^ 0 % 2 = 1 ↔ ρ 0 ≠ 0 := on 0 (by decide)
  have b1 : S / 2 ^ 1 % 2 = 1 ↔ ρ 1 ≠ 0 := on 1 (by decide)
  have hcount : ct p B = w := by
    have t2 := ct_two (S := S)
    have hB2 := hM.2.1
    rcases x2c hM.1 with ⟨rfl, rfl⟩ | ⟨rfl, rfl⟩ | ⟨rfl, rfl⟩
    · rw [if_pos rfl] at hB2
      have z1 := hV.2.1 rfl
      have z0 : 0 < ρ 0 := hD
      rw [if_pos (b0.mpr (by omega)), if_neg (fun h => b1.mp h z1)] at t2
      rw [hB2]
      omega
    · rw [if_neg (by decide)] at hB2
      obtain ⟨z0, z1⟩ := hV.2.2 rfl
      rw [if_neg (fun h => b0.mp h z0), if_neg (fun h => b1.mp h z1)] at t2
      rw [hB2, ct_bit ((p3 (by decide)).mpr (Or.inl rfl))]
      omega
    · rw [if_neg (by decide)] at hB2
      have q1 := p2 n (by omega)
      have q0 := p3 (by decide)
      have hX : XX n ρ n = ρ 1 := by unfold XX; rw [if_neg (by omega)]
      rw [hX] at q1
      have e1 : ct p (ct mask m + (n + 1)) = ct p (ct mask m + n) + (if S / 2 ^ 1 % 2 = 1 then 0 else 1) := by
        rw [← Nat.add_assoc]
        by_cases h : S / 2 ^ 1 % 2 = 1
        · rw [if_pos h, ct_nbit (fun q => b1.mp h (q1.mp q))]; rfl
        · rw [if_neg h, ct_bit (q1.mpr (Classical.byContradiction (fun q => h (b1.mpr q))))]
      have e2 : ct p (ct mask m + (n + 1) + 1) = ct p (ct mask m + (n + 1)) + (if S / 2 ^ 0 % 2 = 1 then 0 else 1) := by
        by_cases h : S / 2 ^ 0 % 2 = 1
        · rw [if_pos h, ct_nbit (fun q => by
            rcases q0.mp q with hh | hh
            · exact absurd hh (by decide)
            · exact b0.mp h hh)]; rfl
        · rw [if_neg h, ct_bit (q0.mpr (Or.inr (Classical.byContradiction (fun q => h (b0.mpr q)))))]
      rw [hB2, e2, e1]
      split at t2 <;> split at t2 <;> simp_all <;> omega
  have hpar := fun (y : Nat → Int) (hy : ∀ c, c < 6 → ¬ bt S c → y c = 0) hr => ray_par (E := Eof a b e) hS' hR' c4 h4 (y := y) hy hr
  rw [← hρ] at hpar
  refine ⟨p, hp, hcount, fun x hx => ?_, fun k hk hb => ?_, fun k hk => ?_⟩
  · obtain ⟨y, hy⟩ : ∃ y, y = zm x2 n x 0 := ⟨_, rfl⟩
    have yV : VV x2 n y := by rw [hy]; exact zm_V x 0
    have yX : ∀ j, j < w → XX n y j = x j := fun j hj => by rw [hy]; exact zm_X hM.1 x 0 hj
    have e0 : ∀ k, exs w bb br k x 0 = sm (fun j => bb k j * x j) w := fun k => by unfold exs; rw [Int.mul_zero, Int.zero_add]
    have yD : DD x2 n y = 0 := by
      rw [hy, zm_D hM.1]
      split
      · rename_i h1
        subst h1
        have hB2 := hM.2.1
        rw [if_neg (by decide)] at hB2
        have := hx _ (show ct mask m + w < B by omega) ((p3 (by decide)).mpr (Or.inl rfl))
        rw [← e0, exs_last1 hn hM] at this
        omega
      · rfl
    have yz : ∀ c, c < 6 → ¬ bt S c → y c = 0 := fun c hc6 hb => by
      have r0 : ρ c = 0 := Classical.byContradiction (fun q => hb ((on c hc6).mpr q))
      by_cases c22 : 2 + n ≤ c
      · exact yV.1 c c22 hc6
      · have hXj : ∀ j, j < w → XX n ρ j = 0 → XX n y j = 0 := fun j hj h => by
          have := hx _ (show ct mask m + j < B by omega) ((p2 j hj).mpr h)
          rw [← e0, exs_zero hn hM hj] at this
          rw [yX j hj]; exact this
        by_cases c2' : c < 2
        · have c01 : c = 0 ∨ c = 1 := by omega
          rcases x2c hM.1 with ⟨rfl, rfl⟩ | ⟨rfl, rfl⟩ | ⟨rfl, rfl⟩
          · rcases c01 with rfl | rfl
            · exact yD
            · exact yV.2.1 rfl
          · rcases c01 with rfl | rfl
            · exact (yV.2.2 rfl).1
            · exact (yV.2.2 rfl).2
          · rcases c01 with rfl | rfl
            · have hB2 := hM.2.1
              rw [if_neg (by decide)] at hB2
              have := hx _ (show ct mask m + (n + 1) < B by omega) ((p3 (by decide)).mpr (Or.inr r0))
              rw [← e0, exs_last2 hn hM] at this
              have e1 := yX n (by omega)
              unfold XX at e1
              rw [if_neg (by omega)] at e1
              have e2 : DD 2 n y = y 0 + y 1 := rfl
              omega
            · have := hXj n (by omega) (by unfold XX; rw [if_neg (by omega)]; exact r0)
              unfold XX at this
              rw [if_neg (by omega)] at this
              exact this
        · have hcw : c - 2 < w := by rcases x2c hM.1 with ⟨-, h⟩ | ⟨-, h⟩ | ⟨-, h⟩ <;> omega
          have := hXj (c - 2) hcw (by unfold XX; rw [if_pos (by omega), show 2 + (c - 2) = c by omega]; exact r0)
          unfold XX at this
          rw [if_pos (by omega), show 2 + (c - 2) = c by omega] at this
          exact this
    have par := hpar y yz (fun i hi hb => by
      have him := Rm i hb
      have hbm := c3 i hi hb
      have := hx _ (show ct mask i < B by have := ct_lt hbm him; omega) ((p1 i him hbm).mpr hb)
      rw [← e0] at this
      rw [← exs_row hn hM him hbm yV, yD]
      refine Eq.trans ?_ this
      unfold exs
      congr 1
      exact sm_congr (fun j hj => by rw [yX j hj]))
    intro j hj
    have key : ∀ c, c < 6 → y c = 0 := fun c hc6 => by
      have := DD_par (x2 := x2) hn par hc6
      rw [yD, Int.zero_mul] at this
      rcases Int.mul_eq_zero.mp this with h | h
      · exact h
      · omega
    rw [← yX j hj]
    unfold XX
    split
    · exact key _ (by omega)
    · exact key _ (by decide)
  · rcases bd_cases hM hk with ⟨i, hi, hbi, rfl⟩ | ⟨j, hj, rfl⟩ | ⟨hx0, rfl⟩
    · rw [exs_row hn hM hi hbi hV]
      exact hsR i (by omega) ((p1 i hi hbi).mp hb)
    · rw [exs_zero hn hM hj]
      exact (p2 j hj).mp hb
    · rcases x2c hM.1 with ⟨rfl, rfl⟩ | ⟨rfl, rfl⟩ | ⟨rfl, rfl⟩
      · exact absurd rfl hx0
      · rw [exs_last1 hn hM]
        have : sm (XX w ρ) w = DD 1 w ρ := sm_congr (fun j hj => by unfold XX; rw [if_pos hj])
        omega
      · rw [exs_last2 hn hM]
        rcases (p3 hx0).mp hb with h | h
        · exact absurd h (by decide)
        · show - (ρ 0 + ρ 1) + (if n < n then _ else ρ 1) = 0
          rw [if_neg (by omega), h]
          omega
  · rcases bd_cases hM hk with ⟨i, hi, hbi, rfl⟩ | ⟨j, hj, rfl⟩ | ⟨hx0, rfl⟩
    · rw [exs_row hn hM hi hbi hV, (hM.2.2.1 i hi hbi).2.1, hρ]
      exact c6 i hi hbi
    · rw [exs_zero hn hM hj, (hM.2.2.2.1 j hj).2.1]
      show 0 ≤ XX n ρ j
      unfold XX
      split
      · exact nn _ (by omega)
      · exact nn _ (by decide)
    · rcases x2c hM.1 with ⟨rfl, rfl⟩ | ⟨rfl, rfl⟩ | ⟨rfl, rfl⟩
      · exact absurd rfl hx0
      · rw [exs_last1 hn hM, (hM.2.2.2.2 hx0).2.1]
        have : sm (XX w ρ) w = DD 1 w ρ := sm_congr (fun j hj => by unfold XX; rw [if_pos hj])
        show - DD 1 w ρ + _ = 0
        omega
      · rw [exs_last2 hn hM, (hM.2.2.2.2 hx0).2.1]
        show - (ρ 0 + ρ 1) + (if n < n then _ else ρ 1) ≤ 0
        rw [if_neg (by omega)]
        have := nn 0 (by decide)
        omega
end Mc
