/-- the bounds that the reference has set up -/
def BD (M : Mm) (w B n : Nat) (bb : Nat → Nat → Int) (br : Nat → Int) (bs : Nat → Int32) (cc : Nat → Int) : Prop :=
  M.1 7 = nI w ∧ M.1 8 = nI B ∧ M.1 4 = nI n ∧ (∀ k, k < B → ∀ j, j < w → (M.2.1 11 (5 * k + j)).toInt = bb k j) ∧ (∀ k, k < B → (M.2.1 13 k).toInt = br k) ∧ (∀ k, k < B → M.2.1 12 k = bs k) ∧ ∀ j, j < n → (M.2.1 8 j).toInt = cc j
/-- their sizes -/
def BZ (w B n : Nat) (bb : Nat → Nat → Int) (br : Nat → Int) (cc : Nat → Int) : Prop :=
  w ≤ 5 ∧ B ≤ 9 ∧ n ≤ w ∧ n ≤ 4 ∧ (∀ k, k < B → sm (fun j => ab (bb k j)) w + ab (br k) ≤ 95 ∧ (∀ j, j < w → ab (bb k j) ≤ 50) ∧ ab (br k) ≤ 50) ∧ ∀ j, j < n → ab (cc j) ≤ 9
/-- v / d is the one point in which the picked bounds are sharp -/
def vtx (w B : Nat) (bb : Nat → Nat → Int) (br : Nat → Int) (p : Nat) (v : Nat → Int) (d : Int) : Prop :=
  0 < d ∧ ct p B = w ∧ ∃ (A P : Nat → Nat → Int) (σ : Int), (∀ r, r < w → ∃ k, k < B ∧ bt p k ∧ ct p k = r ∧ (∀ c, c < w → A r c = bb k c) ∧ A r w = br k) ∧ rowsOf P A w ∧ (σ = 1 ∨ σ = -1) ∧ d = σ * Dk P w ∧ ∀ c, c < w → v c = σ * rep P w c w
def sharp (w B : Nat) (bb : Nat → Nat → Int) (br : Nat → Int) (p : Nat) (v : Nat → Int) (d : Int) : Prop := ∀ k, k < B → bt p k → exs w bb br k v d = 0
def only0 (w B : Nat) (bb : Nat → Nat → Int) (p : Nat) : Prop := ∀ z : Nat → Int, (∀ k, k < B → bt p k → sm (fun j => bb k j * z j) w = 0) → ∀ j, j < w → z j = 0
theorem vtx.row {w B : Nat} {bb : Nat → Nat → Int} {br : Nat → Int} {p : Nat} {A : Nat → Nat → Int} (hc : ct p B = w) (h : ∀ r, r < w → ∃ k, k < B ∧ bt p k ∧ ct p k = r ∧ (∀ c, c < w → A r c = bb k c) ∧ A r w = br k) {k : Nat} (hk : k < B) (hb : bt p k) : ct p k < w ∧ (∀ c, c < w → A (ct p k) c = bb k c) ∧ A (ct p k) w = br k := by
  have hlt : ct p k < w := by rw [← hc]; exact ct_lt hb hk
  obtain ⟨k', h1, h2, h3, h4, h5⟩ := h (ct p k) hlt
  have : k' = k := ct_inj h2 hb h3
  subst this
  exact ⟨hlt, h4, h5⟩
theorem vtx.sharp {w B : Nat} (hw5 : w ≤ 5) {bb : Nat → Nat → Int} {br : Nat → Int} {p : Nat} {v : Nat → Int} {d : Int} (h : vtx w B bb br p v d) : sharp w B bb br p v d := by
  obtain ⟨hd, hc, A, P, σ, hA, hP, hσ, rfl, hv⟩ := h
  intro k hk hb
  obtain ⟨h1, h2, h3⟩ := vtx.row hc hA hk hb
  have e := slv_sol hw5 hP (ct p k) h1
  unfold exs
  rw [sm_congr (g := fun j => σ * (A (ct p k) j * rep P w j w)) (fun j hj => by rw [hv j hj, h2 j hj]; grind), sm_mul, e, h3]
  grind
theorem vtx.only0 {w B : Nat} (hw5 : w ≤ 5) {bb : Nat → Nat → Int} {br : Nat → Int} {p : Nat} {v : Nat → Int} {d : Int} (h : vtx w B bb br p v d) : only0 w B bb p := by
  obtain ⟨hd, hc, A, P, σ, hA, hP, hσ, rfl, hv⟩ := h
  intro z hz
  have hD : Dk P w ≠ 0 := fun q => by rw [q] at hd; omega
  refine slv_one hw5 hP hD (fun j hj => ?_)
  obtain ⟨k, h1, h2, h3, h4, h5⟩ := hA j hj
  rw [sm_congr (g := fun c => bb k c * z c) (fun c hc => by rw [h4 c hc])]
  exact hz k h1 h2
theorem exs_scale {w : Nat} {bb : Nat → Nat → Int} {br : Nat → Int} {k : Nat} {v v' : Nat → Int} {d d' : Int} (h : ∀ j, j < w → v j * d' = v' j * d) : exs w bb br k v d * d' = exs w bb br k v' d' * d := by
  unfold exs
  rw [Int.add_mul, Int.add_mul, Int.mul_comm (sm _ w) d', Int.mul_comm (sm _ w) d, ← sm_mul, ← sm_mul]
  rw [sm_congr (g := fun j => d * (bb k j * v' j)) (fun j hj => by have := h j hj; grind)]
  grind
theorem fit_scale {s : Int32} {x y a b : Int} (ha : 0 < a) (hb : 0 < b) (h : x * a = y * b) (hx : fitS s x) : fitS s y := by
  have hle : ∀ {p q : Int}, 0 < q → (p * q ≤ 0 ↔ p ≤ 0) := fun {p q} hq => by
    constructor
    · intro h1
      by_cases h2 : 0 < p
      · have := Int.mul_pos h2 hq; omega
      · omega
    · intro h1; exact Int.mul_nonpos_of_nonpos_of_nonneg h1 (by omega)
  have hge : ∀ {p q : Int}, 0 < q → (0 ≤ p * q ↔ 0 ≤ p) := fun {p q} hq => by
    constructor
    · intro h1
      by_cases h2 : p < 0
      · have := Int.mul_neg_of_neg_of_pos h2 hq; omega
      · omega
    · intro h1; exact Int.mul_nonneg h1 (by omega)
  unfold fitS at hx ⊢
  by_cases s0 : s = 0
  · rw [if_pos s0] at hx ⊢
    exact (hle hb).mp (h ▸ (hle ha).mpr hx)
  · rw [if_neg s0] at hx ⊢
    by_cases s1 : s = 1
    · rw [if_pos s1] at hx ⊢
      rw [hx, Int.zero_mul] at h
      rcases Int.mul_eq_zero.mp h.symm with q | q
      · exact q
      · omega
    · rw [if_neg s1] at hx ⊢
      exact (hge hb).mp (h ▸ (hge ha).mpr hx)
/-- two points in which the same bounds are sharp, and no direction is left: the same point -/
theorem one_pt {w B : Nat} {bb : Nat → Nat → Int} {br : Nat → Int} {p : Nat} {v v' : Nat → Int} {d d' : Int} (h0 : only0 w B bb p) (h : sharp w B bb br p v d) (h' : sharp w B bb br p v' d') : ∀ j, j < w → v j * d' = v' j * d := by
  intro j hj
  have := h0 (fun j => v j * d' - v' j * d) (fun k hk hb => by
    have e1 := h k hk hb
    have e2 := h' k hk hb
    unfold exs at e1 e2
    rw [sm_congr (g := fun j => d' * (bb k j * v j) - d * (bb k j * v' j)) (fun j _ => by grind), sm_sub, sm_mul, sm_mul]
    grind) j hj
  omega
/-- what take leaves as it was -/
def FRt (M M' : Mm) (f : Nat) : Prop := (∀ k, k ≠ 9 → M'.1 k = M.1 k) ∧ M'.2.1 = M.2.1 ∧ (∀ k, k = 0 ∨ 5 ≤ k → M'.2.2 k = M.2.2 k) ∧ (∀ i, i < 5 * f → M'.2.2 2 i = M.2.2 2 i) ∧ ∀ i, i < f → M'.2.2 3 i = M.2.2 3 i ∧ M'.2.2 4 i = M.2.2 4 i
/-- the point at place f of the list -/
def VT (M : Mm) (f w n : Nat) (cc : Nat → Int) (v : Nat → Int) (d : Int) : Prop := (M.2.2 3 f).toInt = d ∧ (∀ j, j < w → (M.2.2 2 (5 * f + j)).toInt = v j) ∧ (M.2.2 4 f).toInt = sm (fun j => cc j * v j) n
theorem sm_cut {f : Nat → Int} {n : Nat} : ∀ {m : Nat}, n ≤ m → sm (fun j => if j < n then f j else 0) m = sm f n
  | 0, h => by rw [show n = 0 by omega]; rfl
  | m + 1, h => by
    by_cases e : n = m + 1
    · subst e; exact sm_congr (fun j hj => if_pos hj)
    · show sm _ m + (if m < n then f m else 0) = _
      rw [sm_cut (show n ≤ m by omega), if_neg (by omega)]
      omega
theorem pow95 : ∀ w, w ≤ 5 → (95 : Int) ^ w ≤ 2 ^ 40 := by decide +kernel
set_option maxHeartbeats 2000000 in
theorem tk {N w B n f p : Nat} {bb : Nat → Nat → Int} {br : Nat → Int} {bs : Nat → Int32} {cc : Nat → Int} (hN : 20 ≤ N) (hZ : BZ w B n bb br cc) {M : Mm} (hB : BD M w B n bb br bs cc) (hfd : M.1 9 = nI f) (hf : f < 130) (hp : p < 2 ^ 31) :
    ∃ M', f_X3_take N (nI p) M = some M' ∧ FRt M M' f ∧
      ((M'.1 9 = nI (f + 1) ∧ ∃ v d, vtx w B bb br p v d ∧ (∀ k, k < B → fitS (bs k) (exs w bb br k v d)) ∧ VT M' f w n cc v d) ∨
       (M'.1 9 = nI f ∧ (ct p B = w → only0 w B bb p → ∀ v d, 0 < d → sharp w B bb br p v d → ¬ ∀ k, k < B → fitS (bs k) (exs w bb br k v d)))) := by
  obtain ⟨hw5, hB9, hnw, hn4, hsz, hcc⟩ := hZ
  obtain ⟨b1, b2, b3, b4, b5, b6, b7⟩ := hB
  obtain ⟨M1, p1, p2, -, p4⟩ := pck_loop (N := N) (p := p) hN hw5 hB9 hp B 0 N M (by omega) (by omega) b1 b2
  have hpk : f_X3_picked N (nI p) M = some (if ct p B = w then 1 else 0, M1) := p1
  have fr0 : fr1 M M1 := p2
  have frt : ∀ {M2 : Mm}, fr1 M M2 → FRt M M2 f := fun {M2} h => ⟨fun k _ => by rw [h.1], h.2.1, fun k hk => h.2.2 k (by omega), fun i _ => by rw [h.2.2 2 (by decide)], fun i _ => ⟨by rw [h.2.2 3 (by decide)], by rw [h.2.2 4 (by decide)]⟩⟩
  by_cases hc : ct p B = w
  · rw [if_pos hc] at hpk
    obtain ⟨A, hA⟩ : ∃ A : Nat → Nat → Int, A = fun r c => (M1.2.2 1 (6 * r + c)).toInt := ⟨_, rfl⟩
    have hAr : ∀ r, r < w → ∃ k, k < B ∧ bt p k ∧ ct p k = r ∧ (∀ c, c < w → A r c = bb k c) ∧ A r w = br k := by
      intro r hr
      obtain ⟨k, h1, h2, h3⟩ := ct_at (p := p) (B := B) (r := r) (by omega)
      obtain ⟨q1, q2⟩ := p4 k (Nat.zero_le _) h1 h2 (by omega)
      refine ⟨k, h1, h2, h3, fun c hc => ?_, ?_⟩
      · rw [hA]
        show (M1.2.2 1 (6 * r + c)).toInt = _
        rw [← h3, q1 c hc, Kit.i64_of_i32, b4 k h1 c hc]
      · rw [hA]
        show (M1.2.2 1 (6 * r + w)).toInt = _
        rw [← h3, q2, Kit.i64_of_i32, b5 k h1]
    have hs : ∀ j, j < w → sm (fun c => ab (A j c)) (w + 1) ≤ 95 := by
      intro j hj
      obtain ⟨k, h1, -, -, h4, h5⟩ := hAr j hj
      show sm (fun c => ab (A j c)) w + ab (A j w) ≤ 95
      rw [sm_congr (g := fun c => ab (bb k c)) (fun c hc => by rw [h4 c hc]), h5]
      exact (hsz k h1).1
    obtain ⟨res, M2, s1, s2, s3⟩ := slv (N := N) (by omega) hw5 hs (M := M1) (by rw [fr0.1]; exact b1) (A := A) (fun r _ c _ => by rw [hA])
    have fr2 : fr1 M M2 := fr0.tr s2
    rcases s3 with ⟨hr0, z, ⟨c0, hc0, hz0⟩, hz⟩ | ⟨hr0, P, hP, hrD, hnum⟩
    · refine ⟨M2, ?_, frt fr2, Or.inr ⟨by rw [fr2.1]; exact hfd, fun _ h0 => ?_⟩⟩
      · unfold f_X3_take b_X3_take_0
        rw [hpk, Option.bind_some]
        dsimp only
        rw [if_neg (by decide), s1, Option.bind_some]
        dsimp only
        rw [if_pos (cmp_eq.mpr (by rw [hr0, l0]))]
      · exact absurd (h0 z (fun k hk hb => by
          obtain ⟨h1, h2, h3⟩ := vtx.row hc hAr hk hb
          rw [sm_congr (g := fun c => A (ct p k) c * z c) (fun c hc => by rw [h2 c hc])]
          exact hz _ h1) c0 hc0) hz0
    · obtain ⟨σ, hσ⟩ : ∃ σ : Int64, σ = if 0 ≤ res.toInt then 1 else -1 := ⟨_, rfl⟩
      have hσ1 : σ = 1 ∨ σ = -1 := by rw [hσ]; split <;> simp
      have hσv : σ.toInt = if 0 ≤ res.toInt then 1 else -1 := by rw [hσ]; split <;> decide
      have hσ2 : σ.toInt = 1 ∨ σ.toInt = -1 := by rw [hσv]; split <;> simp
      have hDne : Dk P w ≠ 0 := by rw [← hrD]; exact hr0
      have bD := ab_le.mp (Int.le_trans (Dk_95 hs hP (Nat.le_refl w)) (pow95 w hw5))
      have brp : ∀ c, c < w → ab (rep P w c w) ≤ 2 ^ 40 := fun c hc => Int.le_trans (rep_95 hs hP hw5 (Nat.le_refl w) hc (Nat.le_refl w) hDne) (pow95 w hw5)
      have hdv : (σ * res).toInt = σ.toInt * res.toInt := Kit.i64_mul (by rw [hrD]; rcases hσ2 with q | q <;> rw [q] <;> omega) (by rw [hrD]; rcases hσ2 with q | q <;> rw [q] <;> omega)
      have hdp : 0 < σ.toInt * res.toInt := by rw [hσv]; split <;> omega
      obtain ⟨v, hv⟩ : ∃ v : Nat → Int, v = fun j => if j < w then σ.toInt * rep P w j w else 0 := ⟨_, rfl⟩
      have hvb : ∀ j, ab (v j) ≤ 2 ^ 40 := by
        intro j
        rw [hv]
        show ab (if j < w then _ else _) ≤ _
        by_cases h : j < w
        · rw [if_pos h, ab_mul]
          have : ab σ.toInt = 1 := by rcases hσ2 with q | q <;> rw [q] <;> decide
          rw [this, Int.one_mul]; exact brp j h
        · rw [if_neg h]; decide
      obtain ⟨M3, hM3⟩ : ∃ M3, M3 = sL (sL M2 3 f (σ * res)) 4 f 0 := ⟨_, rfl⟩
      have e39 : M3.1 = M.1 := by rw [hM3]; exact fr2.1
      have e3A : M3.2.1 = M.2.1 := by rw [hM3]; exact fr2.2.1
      have e31 : M3.2.2 1 = M2.2.2 1 := by rw [hM3]; exact (sL_ne (by decide)).trans (sL_ne (by decide))
      obtain ⟨M4, t1, t2, t3, t4, t5, t6, t7, t8⟩ := tk_in (N := N) hw5 hn4 hf (x4 := σ) hσ1 v cc hcc hvb 5 0 N M3 (by omega) (by omega) (by rw [e39]; exact b1) (by rw [e39]; exact hfd) (by rw [e39]; exact b3) (fun j hj => by rw [e3A]; exact b7 j hj)
        (fun j hj => by rw [e31, hnum j hj, hv]; show _ = if j < w then _ else _; rw [if_pos hj]) (fun j hj => by rw [hv]; show (if j < w then _ else _) = _; rw [if_neg (by omega)])
        (by rw [hM3, sL_at, if_pos ⟨rfl, rfl⟩, l0]; decide)
      have e49 : M4.1 = M.1 := t2.trans e39
      have e4A : M4.2.1 = M.2.1 := t3.trans e3A
      have e4d : (M4.2.2 3 f).toInt = σ.toInt * res.toInt := by
        rw [t4 3 (by decide) (by decide), hM3, sL_ne (by decide), sL_at, if_pos ⟨rfl, rfl⟩, hdv]
      have e4v : ∀ j, j < w → (M4.2.2 2 (5 * f + j)).toInt = v j := fun j hj => t6 j (Nat.zero_le _) (by omega)
      have hvj : ∀ j, j < w → v j = σ.toInt * rep P w j w := fun j hj => by rw [hv]; exact if_pos hj
      have hd40 : ab (σ.toInt * res.toInt) ≤ 2 ^ 40 := by
        rw [hrD]; apply ab_le.mpr
        rcases hσ2 with q | q <;> rw [q] <;> omega
      have hexs : ∀ k, k < B → exs w (fun k j => (M4.2.1 11 (5 * k + j)).toInt) (fun k => (M4.2.1 13 k).toInt) k (fun j => (M4.2.2 2 (5 * f + j)).toInt) (M4.2.2 3 f).toInt = exs w bb br k v (σ.toInt * res.toInt) := fun k hk => by
        show -(M4.2.1 13 k).toInt * (M4.2.2 3 f).toInt + sm (fun j => (M4.2.1 11 (5 * k + j)).toInt * (M4.2.2 2 (5 * f + j)).toInt) w = -br k * _ + sm (fun j => bb k j * v j) w
        rw [e4A, b5 k hk, e4d, sm_congr (g := fun j => bb k j * v j) (fun j hj => by rw [b4 k hk j hj, e4v j hj])]
      have H : ∀ k, k < B → ∃ r, f_X3_holds N (nI k) M4 = some (r, M4) ∧ (r = 0 ∨ r = 1) ∧ (r = 1 ↔ fitS (bs k) (exs w bb br k v (σ.toInt * res.toInt))) := fun k hk => by
        obtain ⟨r, q1, q2, q3⟩ := hld (N := N) (k := k) (f := f) (by omega) hw5 (by omega) hf (M := M4) (by rw [e49]; exact b1) (by rw [e49]; exact hfd) (fun j hj => by rw [e4A, b4 k hk j hj]; exact (hsz k hk).2.1 j hj) (by rw [e4A, b5 k hk]; exact (hsz k hk).2.2) (fun j hj => by rw [e4v j hj]; exact hvb j) (by rw [e4d]; exact hd40)
        refine ⟨r, q1, q2, ?_⟩
        rw [q3, hexs k hk, e4A, b6 k hk]
      obtain ⟨-, a2, a3⟩ := tk_all (N := N) hB9 hf (M := M4) (by rw [e49]; exact b2) (by rw [e49]; exact hfd) _ H B 0 N (by omega) (by omega)
      have hrun : f_X3_take N (nI p) M = b_X3_take_173 N 1 0 M4 := by
        unfold f_X3_take b_X3_take_0
        rw [hpk, Option.bind_some]
        dsimp only
        rw [if_neg (by decide), s1, Option.bind_some]
        dsimp only
        rw [if_neg (fun h => hr0 (by rw [cmp_eq.mp h, l0]))]
        have e34 : b_X3_take_34 N res σ M2 = b_X3_take_173 N 1 0 M4 := by
          unfold b_X3_take_34
          rw [show M2.1 9 = nI f by rw [fr2.1]; exact hfd, wL_i (by rw [lnL3]; exact hf), Option.bind_some, show (sL M2 3 f (σ * res)).1 9 = nI f by show M2.1 9 = _; rw [fr2.1]; exact hfd, wL_i (by rw [lnL4]; exact hf), Option.bind_some, ← hM3]
          exact t1
        by_cases h : 0 ≤ lg_cmp res 0
        · have h' := cmp_ge.mp h
          rw [l0] at h'
          rw [if_pos h, ← e34, hσ, if_pos h']
        · have h' : ¬ (0 : Int64).toInt ≤ res.toInt := fun q => h (cmp_ge.mpr q)
          rw [l0] at h'
          rw [if_neg h, ← e34, hσ, if_neg h']
      have hvt : vtx w B bb br p v (σ.toInt * res.toInt) := ⟨hdp, hc, A, P, σ.toInt, hAr, hP, hσ2, by rw [hrD], hvj⟩
      have frr : ∀ x, FRt M (wI M4 9 x) f := fun x => by
        refine ⟨fun k hk => ?_, e4A, fun k hk => ?_, fun i hi => ?_, fun i hi => ⟨?_, ?_⟩⟩
        · show upd M4.1 9 x k = _
          rw [pk_un hk, e49]
        · show M4.2.2 k = _
          rw [t4 k (by omega) (by omega), hM3, sL_ne (by omega), sL_ne (by omega), fr2.2.2 k (by omega)]
        · show M4.2.2 2 i = _
          rw [t5 i (by omega), hM3, sL_ne (by decide), sL_ne (by decide), fr2.2.2 2 (by decide)]
        · show M4.2.2 3 i = _
          rw [t4 3 (by decide) (by decide), hM3, sL_ne (by decide), sL_at, if_neg (by omega), fr2.2.2 3 (by decide)]
        · show M4.2.2 4 i = _
          rw [t7 i (by omega), hM3, sL_at, if_neg (by omega), sL_ne (by decide), fr2.2.2 4 (by decide)]
      by_cases hall : ∀ k, k < B → fitS (bs k) (exs w bb br k v (σ.toInt * res.toInt))
      · refine ⟨wI M4 9 (nI (f + 1)), ?_, frr _, Or.inl ⟨pk_us (f := M4.1) (k := 9) (x := nI (f + 1)), v, _, hvt, hall, e4d, e4v, ?_⟩⟩
        · rw [hrun]
          exact a2 (fun k' _ h => hall k' h)
        · show (M4.2.2 4 f).toInt = _
          rw [t8, hM3, sL_at, if_pos ⟨rfl, rfl⟩, l0, sm_cut (show n ≤ 5 by omega)]
          show 0 + (sm (fun j => cc j * v j) n - 0) = _
          omega
      · refine ⟨wI M4 9 (nI f), ?_, frr _, Or.inr ⟨pk_us (f := M4.1) (k := 9) (x := nI f), fun _ h0 v' d' hd' hsh hfit => hall (fun k hk => ?_)⟩⟩
        · rw [hrun]
          refine a3 ?_
          rcases Classical.em (∃ k', 0 ≤ k' ∧ k' < B ∧ ¬ fitS (bs k') (exs w bb br k' v (σ.toInt * res.toInt))) with q | q
          · exact q
          · exact absurd (fun k hk => Classical.byContradiction fun hn => q ⟨k, Nat.zero_le _, hk, hn⟩) hall
        · have e := one_pt h0 hsh (hvt.sharp hw5)
          exact fit_scale hdp hd' (exs_scale (v := v') (v' := v) (d := d') (d' := σ.toInt * res.toInt) (fun j hj => e j hj)) (hfit k hk)
  · rw [if_neg hc] at hpk
    refine ⟨M1, ?_, frt fr0, Or.inr ⟨by rw [fr0.1]; exact hfd, fun h => absurd h hc⟩⟩
    unfold f_X3_take b_X3_take_0
    rw [hpk, Option.bind_some]
    dsimp only
    rw [if_pos rfl]
