section Cq
variable {M : Mm} {n m mask cn w f : Nat} {a : Nat → Nat → Int} {b e cc : Nat → Int} {sn : Nat → Int32}
set_option maxHeartbeats 1000000 in
theorem c_walk (hZ : PZ n m a b e cc) (hF : RF M n cn) (hR : RLS M n m mask (Eof a b e) sn (2 ^ (2 + n)) 0 cn) (h : MLS M 2 n m mask a b e cc sn (n + 1) f) (hX : MX M n (n + 1) f cc 4374 802400) {c c' : Nat} {s s' : Nat → Nat}
    (h1 : CHW (isM M) (ltE cc n M) (lat M) (ltS cc n M) cn c s) (h2 : CHW (fun k => k < f) (ltEm n M) (latm n M) (ltSm n M) f c' s') : c = c' ∧ ∀ i, i < c → MT cc n M f (s i) (s' i) := by
  obtain ⟨l1, l2⟩ := lk2 hZ hF hR h
  have mt1 : ∀ g, g < cn → isM M g → ∃ k, k < f ∧ MT cc n M f g k := fun g hg hm => by
    obtain ⟨k, hk, q1, q2⟩ := l1 g hg hm
    exact ⟨k, hk, hm, hk, q2, w_same hX hk q1⟩
  have mt2 : ∀ k, k < f → ∃ g, g < cn ∧ MT cc n M f g k := fun k hk => by
    obtain ⟨g, hg, hm, q1, q2⟩ := l2 k hk
    exact ⟨g, hg, hm, hk, q2, w_same hX hk q1⟩
  have bp : ∀ k, k < f → 0 < MB M k := fun k hk => (hX.2.2.2.2.2.2.2 k hk).1
  have S : ∀ i, (i < c ↔ i < c') ∧ (i < c → MT cc n M f (s i) (s' i)) := by
    intro i
    induction i with
    | zero =>
      have iff0 : 0 < c ↔ 0 < c' := by
        constructor
        · intro hc
          obtain ⟨q1, q2⟩ := h1.1.1 0 hc
          obtain ⟨k, hk, -⟩ := mt1 _ q1 q2
          exact Nat.pos_of_ne_zero (fun e0 => h2.2.1 e0 k hk hk)
        · intro hc
          obtain ⟨q1, -⟩ := h2.1.1 0 hc
          obtain ⟨g, hg, hm⟩ := mt2 _ q1
          exact Nat.pos_of_ne_zero (fun e0 => h1.2.1 e0 g hg hm.1)
      refine ⟨iff0, fun hc => ?_⟩
      obtain ⟨q1, q2, q3⟩ := h1.1.2.1 hc
      obtain ⟨r1, r2, r3⟩ := h2.1.2.1 (iff0.mp hc)
      have mk : ∀ g k, MT cc n M f g k → EQ (kE cc n M g) (dE M g) (kEm n M k) (dBm M k) 2 := fun g k hm j hj => by
        show kE cc n M g j * MB M k = kEm n M k j * DT M g
        unfold kE kEm
        by_cases e0 : j = 0
        · rw [if_pos e0, if_pos e0]; exact hm.2.2.1
        · rw [if_neg e0, if_neg e0, Int.neg_mul, Int.neg_mul, hm.2.2.2]
      have E := lx_match (n := 2) (P := fun g => g < cn ∧ isM M g) (Q := fun k => k < f) (κ := kE cc n M) (δ := dE M) (κ' := kEm n M) (δ' := dBm M) (fun g hg _ _ => hg.2) (fun k hk _ _ => bp k hk)
        (fun g hg => by
          obtain ⟨k, hk, hm⟩ := mt1 g hg.1 hg.2
          exact ⟨k, hk, mk g k hm⟩)
        (fun k hk => by
          obtain ⟨g, hg, hm⟩ := mt2 k hk
          exact ⟨g, ⟨hg, hm.1⟩, mk g k hm⟩) ⟨q1, q2⟩ r1 (fun g hg => q3 g hg.1 hg.2) (fun k hk => r3 k hk hk)
      refine ⟨q2, r1, E 0 (by omega), ?_⟩
      have e1 : - WR cc n M (s 0) * MB M (s' 0) = - MW M (s' 0) * DT M (s 0) := E 1 (by omega)
      rw [Int.neg_mul, Int.neg_mul] at e1
      omega
    | succ i ih =>
      obtain ⟨ih1, ih2⟩ := ih
      have iffs : i + 1 < c ↔ i + 1 < c' := by
        constructor
        · intro hc
          have hm := ih2 (by omega)
          obtain ⟨q1, ⟨q2, q3⟩, -⟩ := h1.1.2.2 i hc
          obtain ⟨k, hk, hmk⟩ := mt1 _ q1 q2
          have hl := (MT.late hX hmk hm).mp q3
          have hi' : i < c' := ih1.mp (by omega)
          exact Classical.byContradiction (fun hno => h2.2.2 (by omega) k hk ⟨hk, by rw [show c' - 1 = i by omega]; exact hl⟩)
        · intro hc
          have hi : i < c := ih1.mpr (by omega)
          have hm := ih2 hi
          obtain ⟨q1, ⟨q2, q3⟩, -⟩ := h2.1.2.2 i hc
          obtain ⟨g, hg, hmg⟩ := mt2 _ q1
          have hl := (MT.late hX hmg hm).mpr q3
          exact Classical.byContradiction (fun hno => h1.2.2 (by omega) g hg ⟨hmg.1, by rw [show c - 1 = i by omega]; exact hl⟩)
      refine ⟨iffs, fun hc => ?_⟩
      have hm := ih2 (by omega)
      obtain ⟨q1, q2, q3⟩ := h1.1.2.2 i hc
      obtain ⟨r1, r2, r3⟩ := h2.1.2.2 i (iffs.mp hc)
      have E := lx_match (n := 2) (P := fun g => g < cn ∧ isM M g ∧ lat M g (s i)) (Q := fun k => k < f ∧ latm n M k (s' i)) (κ := kS cc n M (s i)) (δ := dS M (s i)) (κ' := kSm n M (s' i)) (δ' := dSm n M (s' i)) (fun g hg => dS_po hg.2.1 hg.2.2) (fun k hk j _ => by
          unfold dSm
          split
          · have := hk.2; unfold latm at this; omega
          · exact bp k hk.1)
        (fun g hg => by
          obtain ⟨k, hk, hmk⟩ := mt1 g hg.1 hg.2.1
          exact ⟨k, ⟨hk, (MT.late hX hmk hm).mp hg.2.2⟩, MT.key hX hmk hm⟩)
        (fun k hk => by
          obtain ⟨g, hg, hmk⟩ := mt2 k hk.1
          exact ⟨g, ⟨hg, hmk.1, (MT.late hX hmk hm).mpr hk.2⟩, MT.key hX hmk hm⟩) ⟨q1, q2⟩ r2 (fun g hg => q3 g hg.1 hg.2) (fun k hk => r3 k hk.1 hk)
      exact MT.back hX q2.1 r1 hm r2.2 E
  refine ⟨?_, fun i hi => (S i).2 hi⟩
  rcases Nat.lt_trichotomy c c' with l | l | l
  · have := (S c).1.mpr l; omega
  · exact l
  · have := (S c').1.mp l; omega
theorem exc_E {i g : Nat} (hE : ∀ c, c < 6 → (M.2.2 (6 + i) c).toInt = Eof a b e i c) : exc M i (12 + g) = exE (Eof a b e) i (RY M g) := by
  unfold exc exE
  exact sm_congr (fun c hc => by rw [hE c hc]; rfl)
theorem ex_same {i g k : Nat} {D r : Int} (h : ∀ j, j < n → RY M g (2 + j) * MB M k = MA M k j * D) : (- r * D + sm (fun j => a i j * RY M g (2 + j)) n) * MB M k = EXm M n a i k r * D := by
  unfold EXm
  rw [Int.add_mul, Int.add_mul, Int.mul_comm (sm _ n) (MB M k), Int.mul_comm (sm _ n) D, ← sm_mul, ← sm_mul]
  rw [sm_congr (f := fun j => MB M k * (a i j * RY M g (2 + j))) (g := fun j => D * (a i j * MA M k j)) (fun j hj => by have := h j hj; grind)]
  grind
theorem c_tight0 (hZ : PZ n m a b e cc) (hF : RF M n cn) (hR : RLS M n m mask (Eof a b e) sn (2 ^ (2 + n)) 0 cn) (h : MLS M 0 n m mask a b e cc sn n f) (hX : MX M n n f cc 4374 802400) {i t g0 : Nat} (hP : isP M g0) (ht : t < f) (hw : WR cc n M g0 * MB M t = MW M t * RY M g0 0) :
    (∀ g, g < cn → isP M g → WR cc n M g * RY M g0 0 = WR cc n M g0 * RY M g 0 → exE (Eof a b e) i (RY M g) = 0) ↔ ∀ k, k < f → MW M k * MB M t = MW M t * MB M k → EXm M n a i k (b i) = 0 := by
  obtain ⟨l1, l2⟩ := lk0 hZ hF hR h
  have bp : ∀ k, k < f → 0 < MB M k := fun k hk => (hX.2.2.2.2.2.2.2 k hk).1
  have both : ∀ g k, g < cn → isP M g → k < f → (∀ j, j < n → RY M g (2 + j) * MB M k = MA M k j * RY M g 0) → (WR cc n M g * RY M g0 0 = WR cc n M g0 * RY M g 0 ↔ MW M k * MB M t = MW M t * MB M k) ∧ (exE (Eof a b e) i (RY M g) = 0 ↔ EXm M n a i k (b i) = 0) := fun g k hg hp hk q => by
    have w1 := w_same hX hk q
    refine ⟨⟨fun e1 => ?_, fun e1 => ?_⟩, ?_⟩
    · have := q_eq (a := MW M k) (b := MB M k) (c := WR cc n M g) (d := RY M g 0) (x := WR cc n M g0) (y := RY M g0 0) (bp k hk) hp.1 hP.1 w1.symm e1
      have := q_eq (a := MW M k) (b := MB M k) (c := WR cc n M g0) (d := RY M g0 0) (x := MW M t) (y := MB M t) (bp k hk) hP.1 (bp t ht) this hw
      exact this
    · have := q_eq (a := WR cc n M g) (b := RY M g 0) (c := MW M k) (d := MB M k) (x := MW M t) (y := MB M t) hp.1 (bp k hk) (bp t ht) w1 e1
      exact q_eq (a := WR cc n M g) (b := RY M g 0) (c := MW M t) (d := MB M t) (x := WR cc n M g0) (y := RY M g0 0) hp.1 (bp t ht) hP.1 this hw.symm
    · have e1 := ex_same (a := a) (i := i) (r := b i) q
      have e2 : exE (Eof a b e) i (RY M g) = - b i * RY M g 0 + sm (fun j => a i j * RY M g (2 + j)) n := by
        rw [exE_eq hZ.2.1 (hF g hg).2.2.2.1, hp.2]
        omega
      rw [← e2] at e1
      exact zer_same (bp k hk) hp.1 e1
  constructor
  · intro H k hk e1
    obtain ⟨g, hg, hp, q⟩ := l2 k hk
    obtain ⟨r1, r2⟩ := both g k hg hp hk q
    exact r2.mp (H g hg hp (r1.mpr e1))
  · intro H g hg hp e1
    obtain ⟨k, hk, q⟩ := l1 g hg hp
    obtain ⟨r1, r2⟩ := both g k hg hp hk q
    exact r2.mpr (H k hk (r1.mp e1))
theorem c_tight1 {kd kv : Int} (hZ : PZ n m a b e cc) (hF : RF M n cn) (hR : RLS M n m mask (Eof a b e) sn (2 ^ (2 + n)) 0 cn) (h : MLS M 1 n m mask a b e cc sn n f) (hX : MX M n n f cc kd kv) {i : Nat} :
    (∀ g, g < cn → isD M g → WR cc n M g = 0 → exE (Eof a b e) i (RY M g) = 0) ↔ ∀ k, k < f → MW M k = 0 → EXm M n a i k 0 = 0 := by
  obtain ⟨l1, l2⟩ := lk1 hZ hF hR h
  have bp : ∀ k, k < f → 0 < MB M k := fun k hk => (hX.2.2.2.2.2.2.2 k hk).1
  have both : ∀ g k, g < cn → isD M g → 0 < SG n M g → k < f → (∀ j, j < n → RY M g (2 + j) * MB M k = MA M k j * SG n M g) → (WR cc n M g = 0 ↔ MW M k = 0) ∧ (exE (Eof a b e) i (RY M g) = 0 ↔ EXm M n a i k 0 = 0) := fun g k hg hp hs hk q => by
    have w1 := w_same hX hk q
    refine ⟨zer_same (bp k hk) hs w1, ?_⟩
    have e1 := ex_same (a := a) (i := i) (r := 0) q
    have e2 : exE (Eof a b e) i (RY M g) = - 0 * SG n M g + sm (fun j => a i j * RY M g (2 + j)) n := by
      rw [exE_eq hZ.2.1 (hF g hg).2.2.2.1, hp.1, hp.2]
      simp
    rw [← e2] at e1
    exact zer_same (bp k hk) hs e1
  constructor
  · intro H k hk e1
    obtain ⟨g, hg, hp, hs, q⟩ := l2 k hk
    obtain ⟨r1, r2⟩ := both g k hg hp hs hk q
    exact r2.mp (H g hg hp (r1.mpr e1))
  · intro H g hg hp e1
    obtain ⟨hs, k, hk, q⟩ := l1 g hg hp
    obtain ⟨r1, r2⟩ := both g k hg hp hs hk q
    exact r2.mpr (H k hk (r1.mp e1))
theorem c_feas (hZ : PZ n m a b e cc) (hF : RF M n cn) (hR : RLS M n m mask (Eof a b e) sn (2 ^ (2 + n)) 0 cn) (h : MLS M 0 n m mask a b e cc sn n f) : (∃ g, g < cn ∧ isP M g) ↔ 0 < f := by
  obtain ⟨l1, l2⟩ := lk0 hZ hF hR h
  constructor
  · intro ⟨g, hg, hp⟩
    obtain ⟨k, hk, -⟩ := l1 g hg hp
    omega
  · intro hf
    obtain ⟨g, hg, hp, -⟩ := l2 0 hf
    exact ⟨g, hg, hp⟩
theorem c_rise {kd kv : Int} (hZ : PZ n m a b e cc) (hF : RF M n cn) (hR : RLS M n m mask (Eof a b e) sn (2 ^ (2 + n)) 0 cn) (h : MLS M 1 n m mask a b e cc sn n f) (hX : MX M n n f cc kd kv) : (∃ g, g < cn ∧ isD M g ∧ 0 < WR cc n M g) ↔ ∃ k, k < f ∧ 0 < MW M k := by
  obtain ⟨l1, l2⟩ := lk1 hZ hF hR h
  have bp : ∀ k, k < f → 0 < MB M k := fun k hk => (hX.2.2.2.2.2.2.2 k hk).1
  constructor
  · intro ⟨g, hg, hp, hw⟩
    obtain ⟨hs, k, hk, q⟩ := l1 g hg hp
    exact ⟨k, hk, (pos_same (bp k hk) hs (w_same hX hk q)).mp hw⟩
  · intro ⟨k, hk, hw⟩
    obtain ⟨g, hg, hp, hs, q⟩ := l2 k hk
    exact ⟨g, hg, hp, (pos_same (bp k hk) hs (w_same hX hk q)).mpr hw⟩
theorem c_grow {kd kv : Int} (hZ : PZ n m a b e cc) (hF : RF M n cn) (hR : RLS M n m mask (Eof a b e) sn (2 ^ (2 + n)) 0 cn) (h : MLS M 1 n m mask a b e cc sn n f) (hX : MX M n n f cc kd kv) {j : Nat} (hj : j < n) : (∃ g, g < cn ∧ isD M g ∧ 0 < RY M g (2 + j)) ↔ ∃ k, k < f ∧ 0 < MA M k j := by
  obtain ⟨l1, l2⟩ := lk1 hZ hF hR h
  have bp : ∀ k, k < f → 0 < MB M k := fun k hk => (hX.2.2.2.2.2.2.2 k hk).1
  constructor
  · intro ⟨g, hg, hp, hw⟩
    obtain ⟨hs, k, hk, q⟩ := l1 g hg hp
    exact ⟨k, hk, (pos_same (bp k hk) hs (q j hj)).mp hw⟩
  · intro ⟨k, hk, hw⟩
    obtain ⟨g, hg, hp, hs, q⟩ := l2 k hk
    exact ⟨g, hg, hp, (pos_same (bp k hk) hs (q j hj)).mpr hw⟩
end Cq
