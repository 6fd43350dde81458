/-! WHAT HOLDS BETWEEN THE CALLS -/
def CLS (M : Mm) (n m : Nat) (a : Nat → Nat → Int) (b e cc : Nat → Int) (sn : Nat → Int32) : Prop :=
  M.1 0 = nI n ∧ M.1 1 = nI m ∧ (∀ i, i < 3 → ∀ c, c < 6 → (M.2.2 (6 + i) c).toInt = Eof a b e i c) ∧ (∀ i, i < 3 → M.2.1 0 i = sn i) ∧ (∀ i, i < 3 → (M.2.1 1 i).toInt = b i) ∧ (∀ i, i < 3 → (M.2.1 2 i).toInt = e i) ∧ ∀ j, j < 4 → (M.2.1 3 j).toInt = cc j
def CCH (M : Mm) (n m : Nat) (a : Nat → Nat → Int) (b e : Nat → Int) (sn : Nat → Int32) : Prop := ∀ mask, mask < 2 ^ m → M.1 3 = nI mask → ∃ cn, CON M n m mask (Eof a b e) sn cn
def INV (M : Mm) (n m : Nat) (a : Nat → Nat → Int) (b e cc : Nat → Int) (sn : Nat → Int32) : Prop := PZ n m a b e cc ∧ CLS M n m a b e cc sn ∧ CCH M n m a b e sn ∧ MDT M n m a b e cc sn
/-- what the class's questions change, and what the reference's -/
def FC (M M' : Mm) : Prop := (∀ k, k ≠ 2 → k ≠ 3 → M'.1 k = M.1 k) ∧ (∀ k, k ≠ 4 → k ≠ 5 → M'.2.1 k = M.2.1 k) ∧ ∀ κ, 1 ≤ κ ∧ κ < 9 ∧ κ ≠ 5 → M'.2.2 κ = M.2.2 κ
def FM (M M' : Mm) : Prop := (∀ k, k < 6 ∨ 11 ≤ k → M'.1 k = M.1 k) ∧ (∀ k, k < 11 ∨ 15 ≤ k → M'.2.1 k = M.2.1 k) ∧ ∀ κ, κ = 0 ∨ 5 ≤ κ → M'.2.2 κ = M.2.2 κ
theorem FC.rf {M : Mm} : FC M M := ⟨fun _ _ _ => rfl, fun _ _ _ => rfl, fun _ _ => rfl⟩
theorem FC.tr {M M' M'' : Mm} (h : FC M M') (h' : FC M' M'') : FC M M'' := ⟨fun k a b => (h'.1 k a b).trans (h.1 k a b), fun k a b => (h'.2.1 k a b).trans (h.2.1 k a b), fun k a => (h'.2.2 k a).trans (h.2.2 k a)⟩
theorem FM.rf {M : Mm} : FM M M := ⟨fun _ _ => rfl, fun _ _ => rfl, fun _ _ => rfl⟩
theorem FM.tr {M M' M'' : Mm} (h : FM M M') (h' : FM M' M'') : FM M M'' := ⟨fun k a => (h'.1 k a).trans (h.1 k a), fun k a => (h'.2.1 k a).trans (h.2.1 k a), fun k a => (h'.2.2 k a).trans (h.2.2 k a)⟩
theorem FRm.fm {M M' : Mm} (h : FRm M M') : FM M M' := ⟨fun k hk => h.1 k (by omega) (by omega) (by omega), fun k hk => h.2.1 k (by omega) (by omega) (by omega), h.2.2⟩
theorem FRk.fc {M M' : Mm} (h : FRk M M') : FC M M' := ⟨h.1, fun k h1 _ => h.2.1 k h1, fun κ hκ => h.2.2 κ ⟨hκ.1, hκ.2.1⟩⟩
theorem RYe {M M' : Mm} (h : ∀ κ, 12 ≤ κ → M'.2.2 κ = M.2.2 κ) : RY M' = RY M := by
  funext g c
  unfold RY
  rw [h (12 + g) (by omega)]
section In
variable {M M' : Mm} {n m mask cn : Nat} {a : Nat → Nat → Int} {b e cc : Nat → Int} {sn : Nat → Int32}
theorem CLS.fc (h : CLS M n m a b e cc sn) (hF : FC M M') : CLS M' n m a b e cc sn := by
  obtain ⟨h1, h2, h3, h4, h5, h6, h7⟩ := h
  exact ⟨by rw [hF.1 0 (by decide) (by decide)]; exact h1, by rw [hF.1 1 (by decide) (by decide)]; exact h2, fun i hi c hc => by rw [hF.2.2 (6 + i) (by omega)]; exact h3 i hi c hc, fun i hi => by rw [hF.2.1 0 (by decide) (by decide)]; exact h4 i hi, fun i hi => by rw [hF.2.1 1 (by decide) (by decide)]; exact h5 i hi, fun i hi => by rw [hF.2.1 2 (by decide) (by decide)]; exact h6 i hi, fun i hi => by rw [hF.2.1 3 (by decide) (by decide)]; exact h7 i hi⟩
theorem CLS.fm (h : CLS M n m a b e cc sn) (hF : FM M M') : CLS M' n m a b e cc sn := by
  obtain ⟨h1, h2, h3, h4, h5, h6, h7⟩ := h
  exact ⟨by rw [hF.1 0 (by decide)]; exact h1, by rw [hF.1 1 (by decide)]; exact h2, fun i hi c hc => by rw [hF.2.2 (6 + i) (by omega)]; exact h3 i hi c hc, fun i hi => by rw [hF.2.1 0 (by decide)]; exact h4 i hi, fun i hi => by rw [hF.2.1 1 (by decide)]; exact h5 i hi, fun i hi => by rw [hF.2.1 2 (by decide)]; exact h6 i hi, fun i hi => by rw [hF.2.1 3 (by decide)]; exact h7 i hi⟩
theorem MDT.fc (h : MDT M n m a b e cc sn) (hF : FC M M') : MDT M' n m a b e cc sn := by
  obtain ⟨h1, h2, h3, h4, h5, h6, h7⟩ := h
  have f := fun k (h : 6 ≤ k) => hF.2.1 k (by omega) (by omega)
  exact ⟨by rw [hF.1 4 (by decide) (by decide)]; exact h1, by rw [hF.1 5 (by decide) (by decide)]; exact h2, fun i hi j hj => by rw [f 6 (by decide)]; exact h3 i hi j hj, fun i hi => by rw [f 7 (by decide)]; exact h4 i hi, fun i hi => by rw [f 9 (by decide)]; exact h5 i hi, fun i hi => by rw [f 8 (by decide)]; exact h6 i hi, fun i hi => by rw [f 10 (by decide)]; exact h7 i hi⟩
theorem MDT.fm (h : MDT M n m a b e cc sn) (hF : FM M M') : MDT M' n m a b e cc sn := by
  obtain ⟨h1, h2, h3, h4, h5, h6, h7⟩ := h
  have f := fun k (h : k < 11) => hF.2.1 k (Or.inl h)
  exact ⟨by rw [hF.1 4 (by decide)]; exact h1, by rw [hF.1 5 (by decide)]; exact h2, fun i hi j hj => by rw [f 6 (by decide)]; exact h3 i hi j hj, fun i hi => by rw [f 7 (by decide)]; exact h4 i hi, fun i hi => by rw [f 9 (by decide)]; exact h5 i hi, fun i hi => by rw [f 8 (by decide)]; exact h6 i hi, fun i hi => by rw [f 10 (by decide)]; exact h7 i hi⟩
theorem RLS.kept {E : Nat → Nat → Int} {S0 R0 : Nat} (h : RLS M n m mask E sn S0 R0 cn) (hL : ∀ κ, 12 ≤ κ → M'.2.2 κ = M.2.2 κ) : RLS M' n m mask E sn S0 R0 cn := by
  refine ⟨fun g hg => ?_, fun S R hs hc => ?_⟩
  · obtain ⟨S, R, h1, h2⟩ := h.1 g hg
    exact ⟨S, R, h1, fun c hc => by rw [hL _ (by omega)]; exact h2 c hc⟩
  · obtain ⟨g, h1, h2⟩ := h.2 S R hs hc
    exact ⟨g, h1, fun c hc => by rw [hL _ (by omega)]; exact h2 c hc⟩
theorem CON.kept {E : Nat → Nat → Int} (h : CON M n m mask E sn cn) (h2 : M'.1 2 = M.1 2) (h3 : M'.1 3 = M.1 3) (hL : ∀ κ, 12 ≤ κ → M'.2.2 κ = M.2.2 κ) : CON M' n m mask E sn cn :=
  ⟨by rw [h3]; exact h.1, by rw [h2]; exact h.2.1, h.2.2.1, h.2.2.2.kept hL⟩
theorem CON.fm {E : Nat → Nat → Int} (h : CON M n m mask E sn cn) (hF : FM M M') : CON M' n m mask E sn cn := h.kept (hF.1 2 (by decide)) (hF.1 3 (by decide)) (fun κ hκ => hF.2.2 κ (by omega))
theorem CCH.fm (h : CCH M n m a b e sn) (hF : FM M M') : CCH M' n m a b e sn := fun mask hm h3 => by
  rw [hF.1 3 (by decide)] at h3
  obtain ⟨cn, hc⟩ := h mask hm h3
  exact ⟨cn, hc.fm hF⟩
theorem INV.fm (h : INV M n m a b e cc sn) (hF : FM M M') : INV M' n m a b e cc sn := ⟨h.1, h.2.1.fm hF, h.2.2.1.fm hF, h.2.2.2.fm hF⟩
theorem SHT_of (h : CLS M n m a b e cc sn) : SHT M n m (Eof a b e) sn := ⟨h.1, h.2.1, h.2.2.1, h.2.2.2.1⟩
theorem CX_of (hZ : PZ n m a b e cc) (h : CLS M n m a b e cc sn) (hc : CON M n m mask (Eof a b e) sn cn) : CX M n cn cc :=
  ⟨hZ.2.1, h.1, hc.2.1, hc.2.2.1, fun j hj => ⟨h.2.2.2.2.2.2 j (by have := hZ.2.1; omega), hZ.2.2.2.2.2.2 j (by have := hZ.2.1; omega)⟩, rf_of hZ hc.2.2.2⟩
/-- the class collects -/
theorem c_coll {N : Nat} (hN : 600 ≤ N) (h : INV M n m a b e cc sn) (hmk : mask < 2 ^ m) : ∃ M' cn, f_X0_collect N (nI mask) M = some M' ∧ FC M M' ∧ INV M' n m a b e cc sn ∧ CON M' n m mask (Eof a b e) sn cn ∧ CX M' n cn cc := by
  obtain ⟨hZ, hc, hh, hm⟩ := h
  have h8 := pow3 m hZ.2.2.1
  obtain ⟨M', cn, a1, a2, a3⟩ := clt (N := N) (by omega) hZ.2.1 hZ.2.2.1 hmk (fun i hi => (Eof_b hZ hi).1) (SHT_of hc) (hh mask hmk)
  have hc' := hc.fc a2.fc
  refine ⟨M', cn, a1, a2.fc, ⟨hZ, hc', fun mask' hm' h3 => ?_, hm.fc a2.fc⟩, a3, CX_of hZ hc' a3⟩
  rw [a3.1] at h3
  have := (nI_eq (by omega) (by omega)).mp h3
  subst this
  exact ⟨cn, a3⟩
/-- the reference collects -/
theorem m_coll {N : Nat} (hN : 600 ≤ N) (h : INV M n m a b e cc sn) (hmk : mask < 2 ^ m) {x2 : Int32} {w : Nat} (hx : (x2 = 2 ∧ w = n + 1) ∨ ((x2 = 0 ∨ x2 = 1) ∧ w = n)) : ∃ M' f, f_X3_collect N (nI mask) x2 M = some M' ∧ FM M M' ∧ INV M' n m a b e cc sn ∧ MLS M' x2 n m mask a b e cc sn w f ∧ MX M' n w f cc (Kd x2) (Kv x2) := by
  obtain ⟨M', f, a1, a2, a3, a4, a5, a6⟩ := mcol (N := N) hN h.1 hmk hx h.2.2.2
  have hI := h.fm a2.fm
  exact ⟨M', f, a1, a2.fm, hI, a6, mx_of h.1 hx hI.2.2.2.1 a3 a5 a6⟩
theorem evry {N : Nat} (h : INV M n m a b e cc sn) : f_X3_everyRow N M = some (nI (2 ^ m - 1), M) := by
  unfold f_X3_everyRow b_X3_everyRow_0
  rw [h.2.2.2.2.1]
  exact congrArg (fun x => some (x, M)) ((by decide : ∀ m, m ≤ 3 → (1 : Int32) <<< (nI m &&& 31) - 1 = nI (2 ^ m - 1)) m h.1.2.2.1)
theorem all_lt (m : Nat) : 2 ^ m - 1 < 2 ^ m := by have := Nat.two_pow_pos m; omega
/-! what the program is, whoever asks -/
def FeasS (n m : Nat) (a : Nat → Nat → Int) (b e : Nat → Int) (sn : Nat → Int32) (mask : Nat) : Prop := ∃ S R, cand n m mask (Eof a b e) sn S R ∧ 0 < ryv (Eof a b e) S R 0 ∧ ryv (Eof a b e) S R 1 = 0
def RiseS (n m : Nat) (a : Nat → Nat → Int) (b e cc : Nat → Int) (sn : Nat → Int32) : Prop := ∃ S R, cand n m (2 ^ m - 1) (Eof a b e) sn S R ∧ ryv (Eof a b e) S R 0 = 0 ∧ ryv (Eof a b e) S R 1 = 0 ∧ 0 < sm (fun j => cc j * ryv (Eof a b e) S R (2 + j)) n
def GrowS (n m : Nat) (a : Nat → Nat → Int) (b e : Nat → Int) (sn : Nat → Int32) (j : Nat) : Prop := ∃ S R, cand n m (2 ^ m - 1) (Eof a b e) sn S R ∧ ryv (Eof a b e) S R 0 = 0 ∧ ryv (Eof a b e) S R 1 = 0 ∧ 0 < ryv (Eof a b e) S R (2 + j)
theorem fs_c (h : RLS M n m mask (Eof a b e) sn (2 ^ (2 + n)) 0 cn) : (∃ g, g < cn ∧ isP M g) ↔ FeasS n m a b e sn mask := by
  constructor
  · intro ⟨g, hg, hp⟩
    obtain ⟨S, R, hc, hr⟩ := h.1 g hg
    exact ⟨S, R, hc, by rw [← hr 0 (by decide)]; exact hp.1, by rw [← hr 1 (by decide)]; exact hp.2⟩
  · intro ⟨S, R, hc, h1, h2⟩
    obtain ⟨g, hg, hr⟩ := h.2 S R (Or.inl hc.1) hc
    exact ⟨g, hg, show 0 < (M.2.2 (12 + g) 0).toInt by rw [hr 0 (by decide)]; exact h1, show (M.2.2 (12 + g) 1).toInt = 0 by rw [hr 1 (by decide)]; exact h2⟩
theorem rs_c (hn : n ≤ 4) (h : RLS M n m (2 ^ m - 1) (Eof a b e) sn (2 ^ (2 + n)) 0 cn) : (∃ g, g < cn ∧ isD M g ∧ 0 < WR cc n M g) ↔ RiseS n m a b e cc sn := by
  have ew : ∀ g S R, (∀ c, c < 6 → (M.2.2 (12 + g) c).toInt = ryv (Eof a b e) S R c) → WR cc n M g = sm (fun j => cc j * ryv (Eof a b e) S R (2 + j)) n := fun g S R hr => sm_congr (fun j hj => by show cc j * (M.2.2 (12 + g) (2 + j)).toInt = _; rw [hr _ (by omega)])
  constructor
  · intro ⟨g, hg, hp, hw⟩
    obtain ⟨S, R, hc, hr⟩ := h.1 g hg
    exact ⟨S, R, hc, by rw [← hr 0 (by decide)]; exact hp.1, by rw [← hr 1 (by decide)]; exact hp.2, by rw [← ew g S R hr]; exact hw⟩
  · intro ⟨S, R, hc, h1, h2, h3⟩
    obtain ⟨g, hg, hr⟩ := h.2 S R (Or.inl hc.1) hc
    exact ⟨g, hg, ⟨show (M.2.2 (12 + g) 0).toInt = 0 by rw [hr 0 (by decide)]; exact h1, show (M.2.2 (12 + g) 1).toInt = 0 by rw [hr 1 (by decide)]; exact h2⟩, by rw [ew g S R hr]; exact h3⟩
theorem gs_c (hn : n ≤ 4) {j : Nat} (hj : j < n) (h : RLS M n m (2 ^ m - 1) (Eof a b e) sn (2 ^ (2 + n)) 0 cn) : (∃ g, g < cn ∧ isD M g ∧ 0 < RY M g (2 + j)) ↔ GrowS n m a b e sn j := by
  constructor
  · intro ⟨g, hg, hp, hw⟩
    obtain ⟨S, R, hc, hr⟩ := h.1 g hg
    exact ⟨S, R, hc, by rw [← hr 0 (by decide)]; exact hp.1, by rw [← hr 1 (by decide)]; exact hp.2, by rw [← hr (2 + j) (by omega)]; exact hw⟩
  · intro ⟨S, R, hc, h1, h2, h3⟩
    obtain ⟨g, hg, hr⟩ := h.2 S R (Or.inl hc.1) hc
    exact ⟨g, hg, ⟨show (M.2.2 (12 + g) 0).toInt = 0 by rw [hr 0 (by decide)]; exact h1, show (M.2.2 (12 + g) 1).toInt = 0 by rw [hr 1 (by decide)]; exact h2⟩, show 0 < (M.2.2 (12 + g) (2 + j)).toInt by rw [hr (2 + j) (by omega)]; exact h3⟩
theorem cand_off {S R c : Nat} {E : Nat → Nat → Int} (h : cand n m mask E sn S R) (h1 : 2 + n ≤ c) : ryv E S R c = 0 := ray_off (bt_hi' h.1 h1)
theorem cand_nn {S R c : Nat} {E : Nat → Nat → Int} (h : cand n m mask E sn S R) (hc : c < 6) : 0 ≤ ryv E S R c := by
  by_cases hb : bt S c
  · exact Int.le_of_lt (ray_pos h.2.2.2.2.1 hc hb)
  · rw [ray_off hb]; exact Int.le_refl _
theorem cand_dir {S R : Nat} {E : Nat → Nat → Int} (hn : n ≤ 4) (h : cand n m mask E sn S R) (h0 : ryv E S R 0 = 0) (h1 : ryv E S R 1 = 0) : 0 < sm (fun j => ryv E S R (2 + j)) n := by
  have h64 := pow6 n hn
  have c1 := h.1
  refine sm_pos (fun j hj => cand_nn h (by omega)) ?_
  obtain ⟨p1, p2, -⟩ := pl_ok (show S < 64 by omega) (show 0 < ct S 6 by have := h.2.2.2.1; omega)
  have hpos := ray_pos h.2.2.2.2.1 p1 p2
  have hlt : pl S 0 < 2 + n := Classical.byContradiction (fun hno => bt_hi' h.1 (show 2 + n ≤ pl S 0 by omega) p2)
  have hge : 2 ≤ pl S 0 := Classical.byContradiction (fun hno => by
    have : pl S 0 = 0 ∨ pl S 0 = 1 := by omega
    rcases this with h | h <;> rw [h] at hpos <;> omega)
  exact ⟨pl S 0 - 2, by omega, by rw [show 2 + (pl S 0 - 2) = pl S 0 by omega]; exact hpos⟩
theorem fs_m {f : Nat} (h : MLS M 0 n m mask a b e cc sn n f) : 0 < f ↔ FeasS n m a b e sn mask := by
  constructor
  · intro hf
    obtain ⟨v, d, -, -, -, -, -, S, R, hc, hV, hD, -⟩ := h.1 0 hf
    exact ⟨S, R, hc, hD, hV.2.1 rfl⟩
  · intro ⟨S, R, hc, h1, h2⟩
    obtain ⟨g, hg, -⟩ := h.2 S R hc ⟨fun c a1 a2 => cand_off hc a1, fun _ => h2, fun q => absurd q (by decide)⟩ h1
    omega
theorem sm_scale {g k : Nat → Int} {B D : Int} (h : ∀ j, j < n → g j * B = k j * D) : sm (fun j => cc j * g j) n * B = sm (fun j => cc j * k j) n * D := by
  rw [Int.mul_comm _ B, Int.mul_comm _ D, ← sm_mul, ← sm_mul]
  exact sm_congr (fun j hj => by have := h j hj; grind)
theorem rs_m {f : Nat} {kd kv : Int} (hn : n ≤ 4) (h : MLS M 1 n m (2 ^ m - 1) a b e cc sn n f) (hX : MX M n n f cc kd kv) : (∃ k, k < f ∧ 0 < MW M k) ↔ RiseS n m a b e cc sn := by
  have eX : ∀ y j, j < n → XX n y j = y (2 + j) := fun y j hj => by unfold XX; rw [if_pos hj]
  constructor
  · intro ⟨k, hk, hw⟩
    obtain ⟨v, d, q1, q2, -, -, -, S, R, hc, hV, hD, hs⟩ := h.1 k hk
    refine ⟨S, R, hc, (hV.2.2 rfl).1, (hV.2.2 rfl).2, ?_⟩
    have e1 := sm_scale (cc := cc) (n := n) (g := fun j => ryv (Eof a b e) S R (2 + j)) (k := v) (fun j hj => by have := hs j hj; rw [eX _ j hj] at this; exact this)
    have e2 : MW M k = sm (fun j => cc j * v j) n := q1.2.2
    rw [← e2] at e1
    exact (pos_same q2 hD e1).mpr hw
  · intro ⟨S, R, hc, h1, h2, h3⟩
    have hd := cand_dir hn hc h1 h2
    obtain ⟨k, hk, v, d, q1, q2, hs⟩ := h.2 S R hc ⟨fun c a1 a2 => cand_off hc a1, fun q => absurd q (by decide), fun _ => ⟨h1, h2⟩⟩ hd
    have e1 := sm_scale (cc := cc) (n := n) (g := fun j => ryv (Eof a b e) S R (2 + j)) (k := v) (fun j hj => by have := hs j hj; rw [eX _ j hj] at this; exact this)
    have e2 : MW M k = sm (fun j => cc j * v j) n := q1.2.2
    rw [← e2] at e1
    exact ⟨k, hk, (pos_same q2 hd e1).mp h3⟩
theorem gs_m {f j : Nat} (hn : n ≤ 4) (hj : j < n) (h : MLS M 1 n m (2 ^ m - 1) a b e cc sn n f) : (∃ k, k < f ∧ 0 < MA M k j) ↔ GrowS n m a b e sn j := by
  have eX : ∀ y j, j < n → XX n y j = y (2 + j) := fun y j hj => by unfold XX; rw [if_pos hj]
  constructor
  · intro ⟨k, hk, hw⟩
    obtain ⟨v, d, q1, q2, -, -, -, S, R, hc, hV, hD, hs⟩ := h.1 k hk
    refine ⟨S, R, hc, (hV.2.2 rfl).1, (hV.2.2 rfl).2, ?_⟩
    have e1 := hs j hj
    rw [eX _ j hj] at e1
    have e2 : MA M k j = v j := q1.2.1 j hj
    rw [← e2] at e1
    exact (pos_same q2 hD e1).mpr hw
  · intro ⟨S, R, hc, h1, h2, h3⟩
    have hd := cand_dir hn hc h1 h2
    obtain ⟨k, hk, v, d, q1, q2, hs⟩ := h.2 S R hc ⟨fun c a1 a2 => cand_off hc a1, fun q => absurd q (by decide), fun _ => ⟨h1, h2⟩⟩ hd
    have e1 := hs j hj
    rw [eX _ j hj] at e1
    have e2 : MA M k j = v j := q1.2.1 j hj
    rw [← e2] at e1
    exact ⟨k, hk, (pos_same q2 hd e1).mp h3⟩
end In
