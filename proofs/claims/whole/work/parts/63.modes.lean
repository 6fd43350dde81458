/-! THE REFERENCE'S BOUNDS, read as forms on rays -/
def Eof (a : Nat → Nat → Int) (b e : Nat → Int) (i c : Nat) : Int := if c = 0 then - b i else if c = 1 then - b i - e i else a i (c - 2)
def MBD (x2 : Int32) (n m mask : Nat) (a : Nat → Nat → Int) (b e : Nat → Int) (sn : Nat → Int32) (w B : Nat) (bb : Nat → Nat → Int) (br : Nat → Int) (bs : Nat → Int32) : Prop :=
  ((x2 = 2 ∧ w = n + 1) ∨ ((x2 = 0 ∨ x2 = 1) ∧ w = n)) ∧ B = (if x2 = 0 then ct mask m + w else ct mask m + w + 1) ∧
  (∀ i, i < m → bt mask i → (∀ c, c < 5 → bb (ct mask i) c = if c < n then a i c else if c = n then (if x2 = 2 then - e i else 0) else 0) ∧ bs (ct mask i) = sn i ∧ br (ct mask i) = if x2 = 1 then 0 else b i) ∧
  (∀ j, j < w → (∀ c, c < 5 → bb (ct mask m + j) c = if c = j then 1 else 0) ∧ bs (ct mask m + j) = 2 ∧ br (ct mask m + j) = 0) ∧
  (x2 ≠ 0 → (∀ c, c < 5 → bb (ct mask m + w) c = lastR n x2 c) ∧ bs (ct mask m + w) = lastS x2 ∧ br (ct mask m + w) = 1)
def XX (n : Nat) (y : Nat → Int) (j : Nat) : Int := if j < n then y (2 + j) else y 1
def DD (x2 : Int32) (n : Nat) (y : Nat → Int) : Int := if x2 = 0 then y 0 else if x2 = 1 then sm (fun j => y (2 + j)) n else y 0 + y 1
def VV (x2 : Int32) (n : Nat) (y : Nat → Int) : Prop := (∀ c, 2 + n ≤ c → c < 6 → y c = 0) ∧ (x2 = 0 → y 1 = 0) ∧ (x2 = 1 → y 0 = 0 ∧ y 1 = 0)
theorem sm_stop2 {g : Nat → Int} {t : Nat} : ∀ {s : Nat}, t ≤ s → (∀ p, t ≤ p → p < s → g p = 0) → sm g s = sm g t
  | 0, hs, _ => by rw [show t = 0 by omega]
  | s + 1, hs, h => by
    by_cases e : t = s + 1
    · rw [e]
    · show sm g s + g s = _
      rw [h s (by omega) (by omega), sm_stop2 (show t ≤ s by omega) (fun p h1 h2 => h p h1 (by omega))]
      omega
theorem sm_front (g : Nat → Int) : ∀ n, sm g (2 + n) = g 0 + g 1 + sm (fun j => g (2 + j)) n
  | 0 => by show 0 + g 0 + g 1 = g 0 + g 1 + 0; omega
  | n + 1 => by
    show sm g (2 + n) + g (2 + n) = g 0 + g 1 + (sm (fun j => g (2 + j)) n + g (2 + n))
    rw [sm_front g n]; omega
theorem sm_one {v : Nat → Int} {j : Nat} : ∀ {w : Nat}, j < w → sm (fun c => (if c = j then 1 else 0) * v c) w = v j
  | w + 1, h => by
    show sm (fun c => (if c = j then 1 else 0) * v c) w + (if w = j then 1 else 0) * v w = v j
    by_cases e : w = j
    · subst e
      rw [sm_zero (fun c hc => by show (if c = w then 1 else 0) * v c = 0; rw [if_neg (by omega), Int.zero_mul]), if_pos rfl]; omega
    · rw [sm_one (show j < w by omega), if_neg e]; omega
theorem exE_eq {a : Nat → Nat → Int} {b e : Nat → Int} {n i : Nat} (hn : n ≤ 4) {y : Nat → Int} (hy : ∀ c, 2 + n ≤ c → c < 6 → y c = 0) : exE (Eof a b e) i y = - b i * y 0 + (- b i - e i) * y 1 + sm (fun j => a i j * y (2 + j)) n := by
  unfold exE
  rw [sm_stop2 (t := 2 + n) (by omega) (fun p h1 h2 => by rw [hy p h1 h2, Int.mul_zero]), sm_front]
  congr 1
  exact sm_congr (fun j _ => by
    show Eof a b e i (2 + j) * _ = _
    unfold Eof
    rw [if_neg (by omega), if_neg (by omega), show 2 + j - 2 = j by omega])
section Md
variable {x2 : Int32} {n m mask w B : Nat} {a : Nat → Nat → Int} {b e : Nat → Int} {sn : Nat → Int32} {bb : Nat → Nat → Int} {br : Nat → Int} {bs : Nat → Int32}
theorem x2c (h : (x2 = 2 ∧ w = n + 1) ∨ ((x2 = 0 ∨ x2 = 1) ∧ w = n)) : (x2 = 0 ∧ w = n) ∨ (x2 = 1 ∧ w = n) ∨ (x2 = 2 ∧ w = n + 1) := by
  rcases h with ⟨h1, h2⟩ | ⟨h1 | h1, h2⟩
  · exact Or.inr (Or.inr ⟨h1, h2⟩)
  · exact Or.inl ⟨h1, h2⟩
  · exact Or.inr (Or.inl ⟨h1, h2⟩)
theorem exs_row (hn : n ≤ 4) (hM : MBD x2 n m mask a b e sn w B bb br bs) {i : Nat} (hi : i < m) (hb : bt mask i) {y : Nat → Int} (hy : VV x2 n y) : exs w bb br (ct mask i) (XX n y) (DD x2 n y) = exE (Eof a b e) i y := by
  obtain ⟨h1, h2, h3⟩ := hM.2.2.1 i hi hb
  rw [exE_eq hn hy.1]
  unfold exs
  rw [h3]
  have es : sm (fun j => bb (ct mask i) j * XX n y j) n = sm (fun j => a i j * y (2 + j)) n := sm_congr (fun j hj => by
    rw [h1 j (by omega), if_pos hj]
    unfold XX
    rw [if_pos hj])
  rcases x2c hM.1 with ⟨rfl, rfl⟩ | ⟨rfl, rfl⟩ | ⟨rfl, rfl⟩
  · rw [es, hy.2.1 rfl, if_neg (by decide)]
    unfold DD
    rw [if_pos rfl]
    omega
  · rw [es, (hy.2.2 rfl).1, (hy.2.2 rfl).2, if_pos rfl]
    simp
  · show _ + (sm (fun j => bb (ct mask i) j * XX n y j) n + bb (ct mask i) n * XX n y n) = _
    rw [es, h1 n (by omega), if_neg (show ¬ (2 : Int32) = 1 by decide), if_neg (show ¬ n < n by omega), if_pos rfl, if_pos rfl]
    unfold DD XX
    rw [if_neg (by decide), if_neg (by decide), if_neg (by omega)]
    grind
theorem exs_zero (hn : n ≤ 4) (hM : MBD x2 n m mask a b e sn w B bb br bs) {j : Nat} (hj : j < w) (v : Nat → Int) (d : Int) : exs w bb br (ct mask m + j) v d = v j := by
  obtain ⟨h1, h2, h3⟩ := hM.2.2.2.1 j hj
  have hw : w ≤ 5 := by rcases x2c hM.1 with ⟨-, h⟩ | ⟨-, h⟩ | ⟨-, h⟩ <;> omega
  unfold exs
  rw [h3, sm_congr (g := fun c => (if c = j then 1 else 0) * v c) (fun c hc => by rw [h1 c (by omega)]), sm_one hj]
  omega
theorem exs_last1 (hn : n ≤ 4) (hM : MBD 1 n m mask a b e sn w B bb br bs) (v : Nat → Int) (d : Int) : exs w bb br (ct mask m + w) v d = - d + sm v n := by
  obtain ⟨h1, h2, h3⟩ := hM.2.2.2.2 (by decide)
  have hw : w = n := by rcases x2c hM.1 with ⟨h, -⟩ | ⟨-, h⟩ | ⟨h, -⟩ <;> first | exact h | exact absurd h (by decide)
  subst hw
  unfold exs
  rw [h3, sm_congr (g := v) (fun c hc => by rw [h1 c (by omega)]; unfold lastR; rw [if_neg (by decide)]; show (if c < w then 1 else 0) * v c = v c; rw [if_pos hc, Int.one_mul])]
  omega
theorem exs_last2 (hn : n ≤ 4) (hM : MBD 2 n m mask a b e sn w B bb br bs) (v : Nat → Int) (d : Int) : exs w bb br (ct mask m + w) v d = - d + v n := by
  obtain ⟨h1, h2, h3⟩ := hM.2.2.2.2 (by decide)
  have hw : w = n + 1 := by rcases x2c hM.1 with ⟨h, -⟩ | ⟨h, -⟩ | ⟨-, h⟩ <;> first | exact h | exact absurd h (by decide)
  subst hw
  unfold exs
  rw [h3, sm_congr (g := fun c => (if c = n then 1 else 0) * v c) (fun c hc => by rw [h1 c (by omega)]; rfl), sm_one (by omega)]
  omega
theorem bd_cases (hM : MBD x2 n m mask a b e sn w B bb br bs) {k : Nat} (hk : k < B) : (∃ i, i < m ∧ bt mask i ∧ k = ct mask i) ∨ (∃ j, j < w ∧ k = ct mask m + j) ∨ (x2 ≠ 0 ∧ k = ct mask m + w) := by
  by_cases h1 : k < ct mask m
  · obtain ⟨i, h2, h3, h4⟩ := ct_at h1
    exact Or.inl ⟨i, h2, h3, h4.symm⟩
  · by_cases h2 : k < ct mask m + w
    · exact Or.inr (Or.inl ⟨k - ct mask m, by omega, by omega⟩)
    · have := hM.2.1
      by_cases h3 : x2 = 0
      · rw [if_pos h3] at this; omega
      · rw [if_neg h3] at this
        exact Or.inr (Or.inr ⟨h3, by omega⟩)
theorem exs_lin (w : Nat) (bb : Nat → Nat → Int) (br : Nat → Int) (k : Nat) (α β : Int) (v v' : Nat → Int) (d d' : Int) : exs w bb br k (fun j => α * v j - β * v' j) (α * d - β * d') = α * exs w bb br k v d - β * exs w bb br k v' d' := by
  unfold exs
  rw [Int.mul_add, Int.mul_add, ← sm_mul, ← sm_mul]
  have : sm (fun j => bb k j * (α * v j - β * v' j)) w = sm (fun j => α * (bb k j * v j)) w - sm (fun j => β * (bb k j * v' j)) w := by
    rw [← sm_sub]
    exact sm_congr (fun j _ => by grind)
  rw [this]
  grind
/-- the ray of a point -/
def zm (x2 : Int32) (n : Nat) (v : Nat → Int) (d : Int) (c : Nat) : Int := if c = 0 then (if x2 = 0 then d else if x2 = 1 then 0 else d - v n) else if c = 1 then (if x2 = 2 then v n else 0) else if c < 2 + n then v (c - 2) else 0
theorem zm_c {v : Nat → Int} {d : Int} {j : Nat} (hj : j < n) : zm x2 n v d (2 + j) = v j := by
  unfold zm
  rw [if_neg (by omega), if_neg (by omega), if_pos (by omega), show 2 + j - 2 = j by omega]
theorem zm_V (v : Nat → Int) (d : Int) : VV x2 n (zm x2 n v d) := by
  refine ⟨fun c h1 h2 => ?_, fun h => ?_, fun h => ⟨?_, ?_⟩⟩
  · unfold zm
    rw [if_neg (by omega), if_neg (by omega), if_neg (by omega)]
  · subst h; rfl
  · subst h; rfl
  · subst h; rfl
theorem zm_X (h : (x2 = 2 ∧ w = n + 1) ∨ ((x2 = 0 ∨ x2 = 1) ∧ w = n)) (v : Nat → Int) (d : Int) {j : Nat} (hj : j < w) : XX n (zm x2 n v d) j = v j := by
  unfold XX
  by_cases e : j < n
  · rw [if_pos e, zm_c e]
  · rw [if_neg e]
    rcases x2c h with ⟨rfl, rfl⟩ | ⟨rfl, rfl⟩ | ⟨rfl, rfl⟩
    · omega
    · omega
    · have : j = n := by omega
      subst this
      rfl
theorem zm_D (h : (x2 = 2 ∧ w = n + 1) ∨ ((x2 = 0 ∨ x2 = 1) ∧ w = n)) (v : Nat → Int) (d : Int) : DD x2 n (zm x2 n v d) = if x2 = 1 then sm v n else d := by
  rcases x2c h with ⟨rfl, -⟩ | ⟨rfl, -⟩ | ⟨rfl, -⟩
  · rfl
  · rw [if_pos rfl]
    exact sm_congr (fun j hj => zm_c hj)
  · show d - v n + v n = d
    omega
theorem DD_zero (hn : n ≤ 4) {y : Nat → Int} (h : ∀ c, c < 6 → y c = 0) : DD x2 n y = 0 := by
  unfold DD
  split
  · exact h 0 (by decide)
  · split
    · exact sm_zero (fun j hj => h _ (by omega))
    · rw [h 0 (by decide), h 1 (by decide)]; rfl
theorem DD_par (hn : n ≤ 4) {y z : Nat → Int} (h : ∀ c c', c < 6 → c' < 6 → y c * z c' = y c' * z c) {c : Nat} (hc : c < 6) : y c * DD x2 n z = DD x2 n y * z c := by
  unfold DD
  split
  · exact h c 0 hc (by decide)
  · split
    · rw [← sm_mul, Int.mul_comm, ← sm_mul]
      exact sm_congr (fun j hj => by rw [h c (2 + j) hc (by omega), Int.mul_comm])
    · rw [Int.mul_add, Int.add_mul, h c 0 hc (by decide), h c 1 hc (by decide)]
theorem fitS0 {x : Int} (h : fitS 0 x) : x ≤ 0 := h
theorem fitS1 {x : Int} (h : fitS 1 x) : x = 0 := h
theorem fitS2 {x : Int} (h : fitS 2 x) : 0 ≤ x := h
set_option maxHeartbeats 1000000 in
theorem mb_sound (hn : n ≤ 4) (hM : MBD x2 n m mask a b e sn w B bb br bs) {p : Nat} {v : Nat → Int} {d : Int} (hv : vtx w B bb br p v d) (hf : ∀ k, k < B → fitS (bs k) (exs w bb br k v d)) :
    ∃ z, EXT n m mask (Eof a b e) sn z ∧ VV x2 n z ∧ (∀ j, j < w → XX n z j = v j) ∧ DD x2 n z = d := by
  have hw5 : w ≤ 5 := by rcases x2c hM.1 with ⟨-, h⟩ | ⟨-, h⟩ | ⟨-, h⟩ <;> omega
  have hd : 0 < d := hv.1
  have hB : ct mask m + w ≤ B := by
    have := hM.2.1
    split at this <;> omega
  obtain ⟨z, hz⟩ : ∃ z, z = zm x2 n v d := ⟨_, rfl⟩
  have zV : VV x2 n z := by rw [hz]; exact zm_V v d
  have zX : ∀ j, j < w → XX n z j = v j := fun j hj => by rw [hz]; exact zm_X hM.1 v d hj
  have hlast1 : x2 = 1 → sm v n = d := fun e1 => by
    subst e1
    have hB1 : ct mask m + w < B := by have := hM.2.1; rw [if_neg (by decide)] at this; omega
    have f := hf _ hB1
    rw [exs_last1 hn hM, (hM.2.2.2.2 (by decide)).2.1] at f
    have := fitS1 f
    omega
  have zD : DD x2 n z = d := by
    rw [hz, zm_D hM.1]
    split
    · rename_i h; exact hlast1 h
    · rfl
  have hnn : ∀ j, j < w → 0 ≤ v j := fun j hj => by
    have f := hf _ (show ct mask m + j < B by omega)
    rw [exs_zero hn hM hj, (hM.2.2.2.1 j hj).2.1] at f
    exact fitS2 f
  have exv : ∀ k v' d', (∀ j, j < w → v j = v' j) → d = d' → exs w bb br k v d = exs w bb br k v' d' := fun k v' d' h1 h2 => by
    unfold exs
    rw [h2, sm_congr (fun j hj => by rw [h1 j hj])]
  have exr : ∀ i, i < m → bt mask i → exs w bb br (ct mask i) v d = exE (Eof a b e) i z := fun i hi hb => by
    rw [← exs_row hn hM hi hb zV]
    exact exv _ _ _ (fun j hj => (zX j hj).symm) zD.symm
  refine ⟨z, ⟨fun c hc => ?_, zV.1, fun i hi hb => ?_, ?_, fun y hy0 hyr => ?_⟩, zV, zX, zD⟩
  · by_cases c2 : c < 2
    · rcases x2c hM.1 with ⟨rfl, rfl⟩ | ⟨rfl, rfl⟩ | ⟨rfl, rfl⟩
      · have : c = 0 ∨ c = 1 := by omega
        rcases this with rfl | rfl
        · have e0 : DD 0 w z = z 0 := rfl
          omega
        · rw [zV.2.1 rfl]; exact Int.le_refl _
      · have : c = 0 ∨ c = 1 := by omega
        rcases this with rfl | rfl
        · rw [(zV.2.2 rfl).1]; exact Int.le_refl _
        · rw [(zV.2.2 rfl).2]; exact Int.le_refl _
      · have hB1 : ct mask m + (n + 1) < B := by have := hM.2.1; rw [if_neg (by decide)] at this; omega
        have f := hf _ hB1
        rw [exs_last2 hn hM, (hM.2.2.2.2 (by decide)).2.1] at f
        have f0 := fitS0 f
        have f1 := hnn n (by omega)
        have z1 : z 1 = v n := by
          have := zX n (by omega)
          unfold XX at this
          rw [if_neg (by omega)] at this
          exact this
        have e0 : DD 2 n z = z 0 + z 1 := rfl
        have : c = 0 ∨ c = 1 := by omega
        rcases this with rfl | rfl <;> omega
    · by_cases c3 : c < 2 + n
      · have hcw : c - 2 < w := by rcases x2c hM.1 with ⟨-, h⟩ | ⟨-, h⟩ | ⟨-, h⟩ <;> omega
        have := zX (c - 2) hcw
        unfold XX at this
        rw [if_pos (by omega), show 2 + (c - 2) = c by omega] at this
        rw [this]
        exact hnn _ hcw
      · rw [zV.1 c (by omega) hc]; exact Int.le_refl _
  · rw [← exr i hi hb, ← (hM.2.2.1 i hi hb).2.1]
    exact hf _ (by have := ct_lt hb hi; omega)
  · exact Classical.byContradiction (fun hno => by
      have : DD x2 n z = 0 := DD_zero hn (fun c hc => Classical.byContradiction (fun hne => hno ⟨c, hc, hne⟩))
      omega)
  · have yV : VV x2 n y := ⟨fun c h1 h2 => hy0 c h2 (zV.1 c h1 h2), fun h => hy0 1 (by decide) (zV.2.1 h), fun h => ⟨hy0 0 (by decide) (zV.2.2 h).1, hy0 1 (by decide) (zV.2.2 h).2⟩⟩
    have yX0 : ∀ j, j < w → v j = 0 → XX n y j = 0 := fun j hj h => by
      have := zX j hj
      rw [h] at this
      unfold XX at this ⊢
      by_cases e : j < n
      · rw [if_pos e] at this ⊢
        exact hy0 _ (by omega) this
      · rw [if_neg e] at this ⊢
        exact hy0 _ (by omega) this
    have hx := hv.only0 hw5 (fun j => d * XX n y j - DD x2 n y * v j) (fun k hk hb => by
      have hs := hv.sharp hw5 k hk hb
      have lin := exs_lin w bb br k d (DD x2 n y) (XX n y) v (DD x2 n y) d
      have e0 : d * DD x2 n y - DD x2 n y * d = 0 := by rw [Int.mul_comm]; omega
      rw [e0, hs] at lin
      have ey : exs w bb br k (XX n y) (DD x2 n y) = 0 := by
        rcases bd_cases hM hk with ⟨i, hi, hbi, rfl⟩ | ⟨j, hj, rfl⟩ | ⟨hx0, rfl⟩
        · rw [exs_row hn hM hi hbi yV]
          rw [exr i hi hbi] at hs
          exact hyr i hi hbi hs
        · rw [exs_zero hn hM hj] at hs ⊢
          exact yX0 j hj hs
        · rcases x2c hM.1 with ⟨rfl, rfl⟩ | ⟨rfl, rfl⟩ | ⟨rfl, rfl⟩
          · exact absurd rfl hx0
          · rw [exs_last1 hn hM]
            have : sm (XX w y) w = DD 1 w y := sm_congr (fun j hj => by unfold XX; rw [if_pos hj])
            omega
          · rw [exs_last2 hn hM] at hs ⊢
            have z1 : z 1 = v n := by
              have := zX n (by omega)
              unfold XX at this
              rw [if_neg (by omega)] at this
              exact this
            have e1 : DD 2 n z = z 0 + z 1 := rfl
            have y0 := hy0 0 (by decide) (by omega)
            show - (y 0 + y 1) + (if n < n then _ else y 1) = 0
            rw [if_neg (by omega), y0]
            omega
      rw [ey] at lin
      unfold exs at lin
      simp at lin
      exact lin)
    have col : ∀ c, c < 6 → d * y c = DD x2 n y * z c := by
      intro c hc
      have hXX : ∀ j, j < w → d * XX n y j = DD x2 n y * XX n z j := fun j hj => by
        have := hx j hj
        rw [zX j hj]
        have : d * XX n y j - DD x2 n y * v j = 0 := this
        omega
      by_cases c3 : 2 + n ≤ c
      · rw [yV.1 c c3 hc, zV.1 c c3 hc]; simp
      · by_cases c2 : c < 2
        · have c01 : c = 0 ∨ c = 1 := by omega
          rcases x2c hM.1 with ⟨rfl, rfl⟩ | ⟨rfl, rfl⟩ | ⟨rfl, rfl⟩
          · rcases c01 with rfl | rfl
            · show d * y 0 = y 0 * z 0
              have : DD 0 w z = z 0 := rfl
              rw [← this, zD, Int.mul_comm]
            · rw [yV.2.1 rfl, zV.2.1 rfl]; simp
          · rcases c01 with rfl | rfl
            · rw [(yV.2.2 rfl).1, (zV.2.2 rfl).1]; simp
            · rw [(yV.2.2 rfl).2, (zV.2.2 rfl).2]; simp
          · have hn1 := hXX n (by omega)
            unfold XX at hn1
            rw [if_neg (by omega), if_neg (by omega)] at hn1
            rcases c01 with rfl | rfl
            · have e1 : DD 2 n z = z 0 + z 1 := rfl
              have e2 : DD 2 n y = y 0 + y 1 := rfl
              rw [e1] at zD
              rw [e2] at hn1 ⊢
              grind
            · exact hn1
        · have hcw : c - 2 < w := by rcases x2c hM.1 with ⟨-, h⟩ | ⟨-, h⟩ | ⟨-, h⟩ <;> omega
          have := hXX (c - 2) hcw
          unfold XX at this
          rw [if_pos (by omega), if_pos (by omega), show 2 + (c - 2) = c by omega] at this
          exact this
    intro c c' hc hc'
    have e1 := col c hc
    have e2 := col c' hc'
    have : d * (y c * z c') = d * (y c' * z c) := by grind
    exact Int.eq_of_mul_eq_mul_left (by omega) this
end Md
