/-! THE CLASS: collect -/
def pr (S : Nat) : Nat → Nat
  | 0 => 0
  | r + 1 => pr S r + if ct r 6 + 1 = ct S 6 then 1 else 0
def ps (m : Nat) : Nat → Nat
  | 0 => 0
  | S + 1 => ps m S + pr S (2 ^ m)
theorem pr_mono {S a : Nat} : ∀ {b : Nat}, a ≤ b → pr S a ≤ pr S b
  | 0, h => by rw [show a = 0 by omega]; exact Nat.le_refl _
  | b + 1, h => by
    by_cases e : a = b + 1
    · rw [e]; exact Nat.le_refl _
    · have := pr_mono (S := S) (show a ≤ b by omega)
      show _ ≤ pr S b + _
      omega
theorem ps_mono {m a : Nat} : ∀ {b : Nat}, a ≤ b → ps m a ≤ ps m b
  | 0, h => by rw [show a = 0 by omega]; exact Nat.le_refl _
  | b + 1, h => by
    by_cases e : a = b + 1
    · rw [e]; exact Nat.le_refl _
    · have := ps_mono (m := m) (show a ≤ b by omega)
      show _ ≤ ps m b + _
      omega
set_option maxRecDepth 100000 in
theorem ps_126 : ∀ n, n ≤ 4 → ∀ m, m ≤ 3 → ps m (2 ^ (2 + n)) ≤ 126 := by decide +kernel
set_option maxRecDepth 100000 in
theorem msk_tab : ∀ R, R < 8 → ∀ k, k < 8 → ((nI R &&& (nI k ^^^ (-1))) = 0 ↔ ∀ i, i < 3 → R / 2 ^ i % 2 = 1 → k / 2 ^ i % 2 = 1) := by decide +kernel
theorem sh1b : ∀ B, B ≤ 6 → (1 : Int32) <<< (nI B &&& 31) = nI (2 ^ B) := by decide +kernel
/-- the pair of columns S and rows R gives a ray of the program with the rows of the mask -/
def cand (n m mask : Nat) (E : Nat → Nat → Int) (sn : Nat → Int32) (S R : Nat) : Prop :=
  S < 2 ^ (2 + n) ∧ R < 2 ^ m ∧ (∀ i, i < 3 → bt R i → bt mask i) ∧ ct R 6 + 1 = ct S 6 ∧ okr E S R ∧ ∀ i, i < m → bt mask i → fitS (sn i) (sm (fun c => E i c * ryv E S R c) 6)
def RLS (M : Mm) (n m mask : Nat) (E : Nat → Nat → Int) (sn : Nat → Int32) (S0 R0 cn : Nat) : Prop :=
  (∀ g, g < cn → ∃ S R, cand n m mask E sn S R ∧ ∀ c, c < 6 → (M.2.2 (12 + g) c).toInt = ryv E S R c) ∧
  ∀ S R, S < S0 ∨ (S = S0 ∧ R < R0) → cand n m mask E sn S R → ∃ g, g < cn ∧ ∀ c, c < 6 → (M.2.2 (12 + g) c).toInt = ryv E S R c
def FRc (M M' : Mm) : Prop := (∀ k, k ≠ 2 → M'.1 k = M.1 k) ∧ (∀ k, k ≠ 4 → M'.2.1 k = M.2.1 k) ∧ ∀ κ, 1 ≤ κ ∧ κ < 9 → M'.2.2 κ = M.2.2 κ
theorem FRc.rf {M : Mm} : FRc M M := ⟨fun _ _ => rfl, fun _ _ => rfl, fun _ _ => rfl⟩
theorem FRc.tr {M M' M'' : Mm} (h : FRc M M') (h' : FRc M' M'') : FRc M M'' := ⟨fun k hk => (h'.1 k hk).trans (h.1 k hk), fun k hk => (h'.2.1 k hk).trans (h.2.1 k hk), fun k hk => (h'.2.2 k hk).trans (h.2.2 k hk)⟩
/-- the sheet, as the cone reads it -/
def SHT (M : Mm) (n m : Nat) (E : Nat → Nat → Int) (sn : Nat → Int32) : Prop := M.1 0 = nI n ∧ M.1 1 = nI m ∧ (∀ i, i < 3 → ∀ c, c < 6 → (M.2.2 (6 + i) c).toInt = E i c) ∧ ∀ i, i < 3 → M.2.1 0 i = sn i
theorem SHT.kept {M M' : Mm} {n m : Nat} {E : Nat → Nat → Int} {sn : Nat → Int32} (h : SHT M n m E sn) (hF : FRc M M') : SHT M' n m E sn :=
  ⟨by rw [hF.1 0 (by decide)]; exact h.1, by rw [hF.1 1 (by decide)]; exact h.2.1, fun i hi c hc => by rw [hF.2.2 (6 + i) (by omega)]; exact h.2.2.1 i hi c hc, fun i hi => by rw [hF.2.1 0 (by decide)]; exact h.2.2.2 i hi⟩
set_option maxHeartbeats 1000000 in
theorem col35 {N n m mask S : Nat} (hN : 10 ≤ N) (hn : n ≤ 4) (hm : m ≤ 3) (hS : S < 2 ^ (2 + n)) (hmk : mask < 2 ^ m) {E : Nat → Nat → Int} {sn : Nat → Int32} (hEb : ∀ i, i < 3 → ∀ c, c < 6 → ab (E i c) ≤ 59) (k16 : Int32 → Int32 → Mm → Option Mm) :
    ∀ (d R cn fuel : Nat) (M : Mm), R + d = 2 ^ m → d < fuel → SHT M n m E sn → M.1 2 = nI cn → cn ≤ ps m S + pr S R → RLS M n m mask E sn S R cn →
    ∃ M' cn', lpT (fun _ _ _ _ _ => none) (F_X0_collect_35 N k16) fuel (nI mask) (nI S) (nI (ct S 6)) (nI R) M = k16 (nI mask) (nI (S + 1)) M' ∧ FRc M M' ∧ M'.1 2 = nI cn' ∧ cn' ≤ ps m (S + 1) ∧ RLS M' n m mask E sn (S + 1) 0 cn' := by
  have hm8 := pow3 m hm
  have hS64 : S < 64 := Nat.lt_of_lt_of_le hS (pow6 n hn)
  intro d
  induction d with
  | zero =>
    intro R cn fuel M hR hf hH h2 hc hL
    obtain ⟨g, rfl, -⟩ := fuel_s hf
    have hRe : R = 2 ^ m := by omega
    subst hRe
    refine ⟨M, cn, ?_, FRc.rf, h2, hc, hL.1, fun S' R' h hcand => hL.2 S' R' (by have := hcand.2.1; omega) hcand⟩
    rw [lp_s]
    generalize lpT (fun _ _ _ _ _ => none) (F_X0_collect_35 N k16) g = q
    unfold F_X0_collect_35
    rw [hH.2.1, sh1b m (by omega), if_pos (Int32.le_refl _), nI_1]
  | succ d ih =>
    intro R cn fuel M hR hf hH h2 hc hL
    obtain ⟨g, rfl, hg⟩ := fuel_s hf
    have hR2 : R < 2 ^ m := by omega
    have hpr : pr S (R + 1) = pr S R + if ct R 6 + 1 = ct S 6 then 1 else 0 := rfl
    have hstep : lpT (fun _ _ _ _ _ => none) (F_X0_collect_35 N k16) (g + 1) (nI mask) (nI S) (nI (ct S 6)) (nI R) M = if (∀ i, i < 3 → R / 2 ^ i % 2 = 1 → mask / 2 ^ i % 2 = 1) then (if ct R 6 + 1 = ct S 6 then (f_X0_tryRay N (nI S) (nI R) (nI mask) M).bind fun M73 => lpT (fun _ _ _ _ _ => none) (F_X0_collect_35 N k16) g (nI mask) (nI S) (nI (ct S 6)) (nI (R + 1)) M73 else lpT (fun _ _ _ _ _ => none) (F_X0_collect_35 N k16) g (nI mask) (nI S) (nI (ct S 6)) (nI (R + 1)) M) else lpT (fun _ _ _ _ _ => none) (F_X0_collect_35 N k16) g (nI mask) (nI S) (nI (ct S 6)) (nI (R + 1)) M := by
      rw [lp_s]
      generalize lpT (fun _ _ _ _ _ => none) (F_X0_collect_35 N k16) g = q
      unfold F_X0_collect_35
      have hle := ct_le R 6
      have hle2 := ct_le S 6
      rw [hH.2.1, sh1b m (by omega), if_neg (fun h => by have := (nI_leI (by omega) (by omega)).mp h; omega), bcnt (by omega), Option.bind_some]
      dsimp only
      rw [nI_1, nI_1]
      have ht := msk_tab R (by omega) mask (by omega)
      by_cases h1 : ∀ i, i < 3 → R / 2 ^ i % 2 = 1 → mask / 2 ^ i % 2 = 1
      · rw [if_pos (ht.mpr h1), if_pos h1]
        by_cases h3 : ct R 6 + 1 = ct S 6
        · rw [if_pos ((nI_eq (by omega) (by omega)).mpr h3), if_pos h3]
        · rw [if_neg (fun h => h3 ((nI_eq (by omega) (by omega)).mp h)), if_neg h3]
      · rw [if_neg (fun h => h1 (ht.mp h)), if_neg h1]
    have skip : ¬ cand n m mask E sn S R → RLS M n m mask E sn S (R + 1) cn := fun hno => ⟨hL.1, fun S' R' h hcand => by
      by_cases e : S' = S ∧ R' = R
      · obtain ⟨rfl, rfl⟩ := e
        exact absurd hcand hno
      · exact hL.2 S' R' (by omega) hcand⟩
    rw [hstep]
    by_cases h1 : ∀ i, i < 3 → R / 2 ^ i % 2 = 1 → mask / 2 ^ i % 2 = 1
    · rw [if_pos h1]
      by_cases h3 : ct R 6 + 1 = ct S 6
      · rw [if_pos h3]
        rw [if_pos h3] at hpr
        have hlim : cn < 126 := by
          have a1 := ps_126 n hn m hm
          have a2 : ps m (S + 1) ≤ ps m (2 ^ (2 + n)) := ps_mono (by omega)
          have a3 : ps m (S + 1) = ps m S + pr S (2 ^ m) := rfl
          have a4 : pr S (R + 1) ≤ pr S (2 ^ m) := pr_mono (by omega)
          omega
        obtain ⟨M1, t1, t2, t3⟩ := try_s (N := N) (mask := mask) hN hn hm hS hR2 (by omega) h3 (M := M) hH.2.1 h2 hlim (E := E) hH.2.2.1 hEb
        have hF : FRc M M1 := ⟨t2.1, t2.2.1, fun κ hκ => t2.2.2 κ (Or.inl hκ)⟩
        have hkeep : ∀ g', g' < cn → ∀ c, M1.2.2 (12 + g') c = M.2.2 (12 + g') c := fun g' hg' c => by rw [t2.2.2 (12 + g') (Or.inr ⟨by omega, by omega⟩)]
        rw [t1, Option.bind_some]
        rcases t3 with ⟨q1, q2, q3, q4⟩ | ⟨q1, q2⟩
        · have hcd : cand n m mask E sn S R := ⟨hS, hR2, h1, h3, q1, fun i hi hb => by have := q2 i hi hb; rw [hH.2.2.2 i (by omega)] at this; exact this⟩
          obtain ⟨M', cn', i1, i2, i3, i4, i5⟩ := ih (R + 1) (cn + 1) g M1 (by omega) (by omega) (hH.kept hF) q3 (by omega) ⟨fun g' hg' => by
            by_cases e : g' = cn
            · rw [e]; exact ⟨S, R, hcd, q4⟩
            · obtain ⟨S', R', a1, a2⟩ := hL.1 g' (by omega)
              exact ⟨S', R', a1, fun c hc => by rw [hkeep g' (by omega)]; exact a2 c hc⟩, fun S' R' h hcand => by
            by_cases e : S' = S ∧ R' = R
            · obtain ⟨rfl, rfl⟩ := e
              exact ⟨cn, by omega, q4⟩
            · obtain ⟨g', a1, a2⟩ := hL.2 S' R' (by omega) hcand
              exact ⟨g', by omega, fun c hc => by rw [hkeep g' a1]; exact a2 c hc⟩⟩
          exact ⟨M', cn', i1, hF.tr i2, i3, i4, i5⟩
        · have hno : ¬ cand n m mask E sn S R := fun hcand => q1 ⟨hcand.2.2.2.2.1, fun i hi hb => by rw [hH.2.2.2 i (by omega)]; exact hcand.2.2.2.2.2 i hi hb⟩
          have hL2 := skip hno
          obtain ⟨M', cn', i1, i2, i3, i4, i5⟩ := ih (R + 1) cn g M1 (by omega) (by omega) (hH.kept hF) q2 (by omega) ⟨fun g' hg' => by
            obtain ⟨S', R', a1, a2⟩ := hL2.1 g' hg'
            exact ⟨S', R', a1, fun c hc => by rw [hkeep g' hg']; exact a2 c hc⟩, fun S' R' h hcand => by
            obtain ⟨g', a1, a2⟩ := hL2.2 S' R' h hcand
            exact ⟨g', a1, fun c hc => by rw [hkeep g' a1]; exact a2 c hc⟩⟩
          exact ⟨M', cn', i1, hF.tr i2, i3, i4, i5⟩
      · rw [if_neg h3]
        exact ih (R + 1) cn g M (by omega) (by omega) hH h2 (by omega) (skip (fun hcand => h3 hcand.2.2.2.1))
    · rw [if_neg h1]
      exact ih (R + 1) cn g M (by omega) (by omega) hH h2 (by omega) (skip (fun hcand => h1 hcand.2.2.1))
set_option maxHeartbeats 1000000 in
theorem col16 {N n m mask : Nat} (hN : 20 ≤ N) (hn : n ≤ 4) (hm : m ≤ 3) (hmk : mask < 2 ^ m) {E : Nat → Nat → Int} {sn : Nat → Int32} (hEb : ∀ i, i < 3 → ∀ c, c < 6 → ab (E i c) ≤ 59) :
    ∀ (d S cn fuel : Nat) (M : Mm), S + d = 2 ^ (2 + n) → d < fuel → SHT M n m E sn → M.1 2 = nI cn → cn ≤ ps m S → RLS M n m mask E sn S 0 cn →
    ∃ M' cn', lpT (fun _ _ _ => none) (F_X0_collect_16 N) fuel (nI mask) (nI S) M = some (wI M' 3 (nI mask)) ∧ FRc M M' ∧ M'.1 2 = nI cn' ∧ cn' ≤ 126 ∧ RLS M' n m mask E sn (2 ^ (2 + n)) 0 cn' := by
  have h64 := pow6 n hn
  have hm8 := pow3 m hm
  intro d
  induction d with
  | zero =>
    intro S cn fuel M hS hf hH h2 hc hL
    obtain ⟨g, rfl, -⟩ := fuel_s hf
    have hSe : S = 2 ^ (2 + n) := by omega
    subst hSe
    refine ⟨M, cn, ?_, FRc.rf, h2, Nat.le_trans hc (ps_126 n hn m hm), hL⟩
    rw [lp_s]
    generalize lpT (fun _ _ _ => none) (F_X0_collect_16 N) g = q
    unfold F_X0_collect_16
    rw [colm hH.1, Option.bind_some]
    dsimp only
    rw [sh1b (2 + n) (by omega), if_pos (Int32.le_refl _)]
  | succ d ih =>
    intro S cn fuel M hS hf hH h2 hc hL
    obtain ⟨g, rfl, hg⟩ := fuel_s hf
    obtain ⟨M1, cn1, a1, a2, a3, a4, a5⟩ := col35 (N := N) (mask := mask) (S := S) (by omega) hn hm (by omega) hmk hEb (lpT (fun _ _ _ => none) (F_X0_collect_16 N) g) (2 ^ m) 0 cn N M (by omega) (by omega) hH h2 (by show cn ≤ ps m S + 0; omega) hL
    obtain ⟨M', cn', i1, i2, i3, i4, i5⟩ := ih (S + 1) cn1 g M1 (by omega) (by omega) (hH.kept a2) a3 a4 a5
    refine ⟨M', cn', ?_, a2.tr i2, i3, i4, i5⟩
    rw [← i1]
    refine Eq.trans ?_ a1
    rw [lp_s]
    generalize lpT (fun _ _ _ => none) (F_X0_collect_16 N) g = q
    unfold F_X0_collect_16
    rw [colm hH.1, Option.bind_some]
    dsimp only
    rw [sh1b (2 + n) (by omega), if_neg (fun h => by have := (nI_leI (by omega) (by omega)).mp h; omega), bcnt (by omega), Option.bind_some]
    rfl
/-- the cone is up to date: the rays are those of the rows of the mask -/
def CON (M : Mm) (n m mask : Nat) (E : Nat → Nat → Int) (sn : Nat → Int32) (cn : Nat) : Prop := M.1 3 = nI mask ∧ M.1 2 = nI cn ∧ cn ≤ 126 ∧ RLS M n m mask E sn (2 ^ (2 + n)) 0 cn
/-- what collect changes: the cone alone -/
def FRk (M M' : Mm) : Prop := (∀ k, k ≠ 2 → k ≠ 3 → M'.1 k = M.1 k) ∧ (∀ k, k ≠ 4 → M'.2.1 k = M.2.1 k) ∧ ∀ κ, 1 ≤ κ ∧ κ < 9 → M'.2.2 κ = M.2.2 κ
theorem clt {N n m mask : Nat} (hN : 100 ≤ N) (hn : n ≤ 4) (hm : m ≤ 3) (hmk : mask < 2 ^ m) {E : Nat → Nat → Int} {sn : Nat → Int32} (hEb : ∀ i, i < 3 → ∀ c, c < 6 → ab (E i c) ≤ 59) {M : Mm} (hH : SHT M n m E sn) (hcol : M.1 3 = nI mask → ∃ cn, CON M n m mask E sn cn) :
    ∃ M' cn, f_X0_collect N (nI mask) M = some M' ∧ FRk M M' ∧ CON M' n m mask E sn cn := by
  have h64 := pow6 n hn
  have h1 : 1 ≤ 2 ^ (2 + n) := Nat.one_le_two_pow
  unfold f_X0_collect b_X0_collect_0
  by_cases h : M.1 3 = nI mask
  · obtain ⟨cn, hc⟩ := hcol h
    exact ⟨M, cn, if_pos h, ⟨fun _ _ _ => rfl, fun _ _ => rfl, fun _ _ => rfl⟩, hc⟩
  · rw [if_neg h]
    have hF0 : FRc M (wI M 2 0) := ⟨fun k hk => pk_un hk, fun _ _ => rfl, fun _ _ => rfl⟩
    obtain ⟨M', cn', a1, a2, a3, a4, a5⟩ := col16 (N := N) (mask := mask) (by omega) hn hm hmk hEb (2 ^ (2 + n) - 1) 1 0 N (wI M 2 0) (by omega) (by omega) (hH.kept hF0) (pk_us (f := M.1) (k := 2)) (Nat.zero_le _) ⟨fun g hg => by omega, fun S R h hcand => by
      have hS0 : S = 0 := by omega
      have := hcand.2.2.2.1
      rw [hS0, ct0] at this
      omega⟩
    refine ⟨wI M' 3 (nI mask), cn', a1, ⟨fun k h2 h3 => ?_, a2.2.1, a2.2.2⟩, pk_us (f := M'.1) (k := 3), ?_, a4, a5⟩
    · show upd M'.1 3 (nI mask) k = _
      rw [pk_un h3, a2.1 k h2]
      exact pk_un h2
    · show upd M'.1 3 (nI mask) 2 = _
      rw [pk_un (by decide)]
      exact a3
