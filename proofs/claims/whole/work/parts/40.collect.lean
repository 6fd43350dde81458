/-! THE REFERENCE: collect -/
def cnt (B w : Nat) : Nat → Nat
  | 0 => 0
  | p + 1 => cnt B w p + if ct p B = w then 1 else 0
theorem cnt_mono {B w a : Nat} : ∀ {b : Nat}, a ≤ b → cnt B w a ≤ cnt B w b
  | 0, h => by rw [show a = 0 by omega]; exact Nat.le_refl _
  | b + 1, h => by
    by_cases e : a = b + 1
    · rw [e]; exact Nat.le_refl _
    · have := cnt_mono (B := B) (w := w) (show a ≤ b by omega)
      show _ ≤ cnt B w b + _
      omega
set_option maxRecDepth 100000 in
theorem cnt_126 : ∀ B, B < 10 → ∀ w, w < 6 → cnt B w (2 ^ B) ≤ 126 := by decide +kernel
theorem sh1 : ∀ B, B < 10 → (1 : Int32) <<< (nI B &&& 31) = nI (2 ^ B) := by decide +kernel
theorem two9 : ∀ B, B < 10 → 2 ^ B ≤ 512 := by decide
/-- the list of f points: each is a vertex in which all bounds hold; every such vertex is there -/
def LST (M : Mm) (w B n : Nat) (bb : Nat → Nat → Int) (br : Nat → Int) (bs : Nat → Int32) (cc : Nat → Int) (P f : Nat) : Prop :=
  (∀ g, g < f → ∃ p v d, p < P ∧ vtx w B bb br p v d ∧ (∀ k, k < B → fitS (bs k) (exs w bb br k v d)) ∧ VT M g w n cc v d) ∧
  ∀ p, p < P → ct p B = w → only0 w B bb p → ∀ v d, 0 < d → sharp w B bb br p v d → (∀ k, k < B → fitS (bs k) (exs w bb br k v d)) → ∃ g, g < f ∧ ∃ v' d', VT M g w n cc v' d' ∧ 0 < d' ∧ ∀ j, j < w → v j * d' = v' j * d
theorem VT.kept {M M' : Mm} {f g w n : Nat} {cc v : Nat → Int} {d : Int} (hw : w ≤ 5) (hF : FRt M M' f) (hg : g < f) (h : VT M g w n cc v d) : VT M' g w n cc v d := by
  obtain ⟨h1, h2, h3⟩ := h
  exact ⟨by rw [(hF.2.2.2.2 g hg).1]; exact h1, fun j hj => by rw [hF.2.2.2.1 _ (by omega)]; exact h2 j hj, by rw [(hF.2.2.2.2 g hg).2]; exact h3⟩
set_option maxHeartbeats 1000000 in
theorem col_loop {N w B n : Nat} {bb : Nat → Nat → Int} {br : Nat → Int} {bs : Nat → Int32} {cc : Nat → Int} (hN : 20 ≤ N) (hZ : BZ w B n bb br cc) :
    ∀ (d p f fuel : Nat) (M : Mm), p + d = 2 ^ B → d < fuel → BD M w B n bb br bs cc → M.1 9 = nI f → f ≤ cnt B w p → LST M w B n bb br bs cc p f →
    ∃ M' f', lpT (fun _ _ => none) (F_X3_collect_13 N) fuel (nI p) M = some M' ∧ f' ≤ 126 ∧ M'.1 9 = nI f' ∧ (∀ k, k ≠ 9 → M'.1 k = M.1 k) ∧ M'.2.1 = M.2.1 ∧ (∀ k, k = 0 ∨ 5 ≤ k → M'.2.2 k = M.2.2 k) ∧ LST M' w B n bb br bs cc (2 ^ B) f' := by
  have hZ' := hZ
  obtain ⟨hw5, hB9, -⟩ := hZ'
  have h512 := two9 B (by omega)
  intro d
  induction d with
  | zero =>
    intro p f fuel M hp hfu hB hfd hf hL
    obtain ⟨q, rfl, -⟩ := fuel_s hfu
    have hpe : p = 2 ^ B := by omega
    subst hpe
    refine ⟨M, f, ?_, Nat.le_trans hf (cnt_126 B (by omega) w (by omega)), hfd, fun _ _ => rfl, rfl, fun _ _ => rfl, hL⟩
    rw [lp_s]
    unfold F_X3_collect_13
    rw [hB.2.1, sh1 B (by omega), if_pos (Int32.le_refl _)]
  | succ d ih =>
    intro p f fuel M hp hfu hB hfd hf hL
    obtain ⟨q, rfl, hq⟩ := fuel_s hfu
    have hlt : p < 2 ^ B := by omega
    have hcle : cnt B w p ≤ 126 := Nat.le_trans (cnt_mono (by omega)) (cnt_126 B (by omega) w (by omega))
    obtain ⟨M1, t1, t2, t3⟩ := tk (N := N) hN hZ hB hfd (by omega) (p := p) (by omega)
    have hB1 : BD M1 w B n bb br bs cc := by
      obtain ⟨b1, b2, b3, b4, b5, b6, b7⟩ := hB
      rw [BD, t2.2.1, t2.1 7 (by decide), t2.1 8 (by decide), t2.1 4 (by decide)]
      exact ⟨b1, b2, b3, b4, b5, b6, b7⟩
    have hstep : lpT (fun _ _ => none) (F_X3_collect_13 N) (q + 1) (nI p) M = lpT (fun _ _ => none) (F_X3_collect_13 N) q (nI (p + 1)) M1 := by
      rw [lp_s]
      generalize lpT (fun _ _ => none) (F_X3_collect_13 N) q = g
      unfold F_X3_collect_13
      rw [hB.2.1, sh1 B (by omega), if_neg (fun h => by have := (nI_leI (by omega) (by omega)).mp h; omega), t1, Option.bind_some, nI_1]
    have hcs : cnt B w (p + 1) = cnt B w p + if ct p B = w then 1 else 0 := rfl
    have fin : ∀ f1, M1.1 9 = nI f1 → f1 ≤ cnt B w (p + 1) → LST M1 w B n bb br bs cc (p + 1) f1 → ∃ M' f', lpT (fun _ _ => none) (F_X3_collect_13 N) (q + 1) (nI p) M = some M' ∧ f' ≤ 126 ∧ M'.1 9 = nI f' ∧ (∀ k, k ≠ 9 → M'.1 k = M.1 k) ∧ M'.2.1 = M.2.1 ∧ (∀ k, k = 0 ∨ 5 ≤ k → M'.2.2 k = M.2.2 k) ∧ LST M' w B n bb br bs cc (2 ^ B) f' := by
      intro f1 e1 e2 e3
      obtain ⟨M', f', i1, i2, i3, i4, i5, i6, i7⟩ := ih (p + 1) f1 q M1 (by omega) (by omega) hB1 e1 e2 e3
      exact ⟨M', f', hstep.trans i1, i2, i3, fun k hk => (i4 k hk).trans (t2.1 k hk), i5.trans t2.2.1, fun k hk => (i6 k hk).trans (t2.2.2.1 k hk), i7⟩
    rcases t3 with ⟨e1, v, dd, hv, hfit, hVT⟩ | ⟨e1, hno⟩
    · refine fin (f + 1) e1 (by rw [hcs, if_pos hv.2.1]; omega) ⟨fun g hg => ?_, fun p' hp' hc h0 v' d' hd' hsh hft => ?_⟩
      · by_cases e : g = f
        · subst e; exact ⟨p, v, dd, by omega, hv, hfit, hVT⟩
        · obtain ⟨p', v', d', a1, a2, a3, a4⟩ := hL.1 g (by omega)
          exact ⟨p', v', d', by omega, a2, a3, a4.kept hw5 t2 (by omega)⟩
      · by_cases e : p' = p
        · subst e
          exact ⟨f, by omega, v, dd, hVT, hv.1, one_pt h0 hsh (hv.sharp hw5)⟩
        · obtain ⟨g, hg, v2, d2, a1, a2, a3⟩ := hL.2 p' (by omega) hc h0 v' d' hd' hsh hft
          exact ⟨g, by omega, v2, d2, a1.kept hw5 t2 hg, a2, a3⟩
    · refine fin f e1 (by rw [hcs]; omega) ⟨fun g hg => ?_, fun p' hp' hc h0 v' d' hd' hsh hft => ?_⟩
      · obtain ⟨p', v', d', a1, a2, a3, a4⟩ := hL.1 g hg
        exact ⟨p', v', d', by omega, a2, a3, a4.kept hw5 t2 hg⟩
      · by_cases e : p' = p
        · subst e
          exact absurd hft (hno hc h0 v' d' hd' hsh)
        · obtain ⟨g, hg, v2, d2, a1, a2, a3⟩ := hL.2 p' (by omega) hc h0 v' d' hd' hsh hft
          exact ⟨g, hg, v2, d2, a1.kept hw5 t2 hg, a2, a3⟩
theorem ct0 : ∀ B, ct 0 B = 0
  | 0 => rfl
  | B + 1 => by
    show ct 0 B + 0 / 2 ^ B % 2 = 0
    rw [ct0 B, Nat.zero_div]
theorem col {N w B n : Nat} {bb : Nat → Nat → Int} {br : Nat → Int} {bs : Nat → Int32} {cc : Nat → Int} (hN : 600 ≤ N) (hZ : BZ w B n bb br cc) (hw : 1 ≤ w) {M : Mm} (hB : BD M w B n bb br bs cc) (h9 : M.1 9 = nI 0) :
    ∃ M' f', b_X3_collect_13 N 1 M = some M' ∧ f' ≤ 126 ∧ M'.1 9 = nI f' ∧ (∀ k, k ≠ 9 → M'.1 k = M.1 k) ∧ M'.2.1 = M.2.1 ∧ (∀ k, k = 0 ∨ 5 ≤ k → M'.2.2 k = M.2.2 k) ∧ LST M' w B n bb br bs cc (2 ^ B) f' := by
  have h512 := two9 B (by have := hZ.2.1; omega)
  have h1 : 1 ≤ 2 ^ B := Nat.one_le_two_pow
  refine col_loop (N := N) (by omega) hZ (2 ^ B - 1) 1 0 N M (by omega) (by omega) hB h9 (Nat.zero_le _) ⟨fun g hg => by omega, fun p hp hc => ?_⟩
  rw [show p = 0 by omega, ct0] at hc
  omega
