section St
variable {M M' : Mm} {n m mask cn : Nat} {a : Nat → Nat → Int} {b e cc : Nat → Int} {sn : Nat → Int32}
/-- the status, whoever asks -/
def StS (n m : Nat) (a : Nat → Nat → Int) (b e cc : Nat → Int) (sn : Nat → Int32) (st : Int32) : Prop := (st = 1 ∧ ¬ FeasS n m a b e sn (2 ^ m - 1)) ∨ (st = 2 ∧ FeasS n m a b e sn (2 ^ m - 1) ∧ RiseS n m a b e cc sn) ∨ (st = 0 ∧ FeasS n m a b e sn (2 ^ m - 1) ∧ ¬ RiseS n m a b e cc sn)
theorem StS.un {s t : Int32} (h : StS n m a b e cc sn s) (h' : StS n m a b e cc sn t) : s = t := by
  rcases h with ⟨h1, h2⟩ | ⟨h1, h2, h3⟩ | ⟨h1, h2, h3⟩ <;> rcases h' with ⟨k1, k2⟩ | ⟨k1, k2, k3⟩ | ⟨k1, k2, k3⟩ <;> first | exact h1.trans k1.symm | exact absurd k2 h2 | exact absurd h2 k2 | exact absurd h3 k3 | exact absurd k3 h3
theorem c_feasb {N : Nat} (hN : 600 ≤ N) (h : INV M n m a b e cc sn) (hmk : mask < 2 ^ m) : ∃ r M' cn, f_X2_isFeasible N (nI mask) M = some (r, M') ∧ (r = 0 ∨ r = 1) ∧ (r = 1 ↔ FeasS n m a b e sn mask) ∧ FC M M' ∧ INV M' n m a b e cc sn ∧ CON M' n m mask (Eof a b e) sn cn ∧ CX M' n cn cc := by
  obtain ⟨M', cn, a1, a2, a3, a4, a5⟩ := c_coll hN h hmk
  have hc := a5.2.2.2.1
  obtain ⟨r, r1, r2, r3⟩ := feas_loop (N := N) a5 cn 0 N (by omega) (by omega)
  refine ⟨r, M', cn, ?_, r2, r3.trans (Iff.trans ⟨fun ⟨g, _, x⟩ => ⟨g, x⟩, fun ⟨g, x⟩ => ⟨g, Nat.zero_le _, x⟩⟩ (fs_c a4.2.2.2)), a2, a3, a4, a5⟩
  unfold f_X2_isFeasible b_X2_isFeasible_0
  rw [a1, Option.bind_some]
  exact r1
theorem c_solve {N : Nat} (hN : 600 ≤ N) (h : INV M n m a b e cc sn) : ∃ st M' cn, f_X2_solve N M = some (st, M') ∧ StS n m a b e cc sn st ∧ FC M M' ∧ INV M' n m a b e cc sn ∧ CON M' n m (2 ^ m - 1) (Eof a b e) sn cn ∧ CX M' n cn cc := by
  obtain ⟨r, M', cn, a1, a2, a3, a4, a5, a6, a7⟩ := c_feasb hN h (all_lt m)
  obtain ⟨q, q1, q2, q3⟩ := rise_s (N := N) (by omega) a7
  have q4 := q3.trans (rs_c h.1.2.1 a6.2.2.2)
  unfold f_X2_solve b_X2_solve_0
  rw [allr h.1.2.2.1 h.2.1.2.1, Option.bind_some]
  dsimp only
  rw [a1, Option.bind_some]
  dsimp only
  rcases a2 with rfl | rfl
  · rw [if_pos rfl]
    exact ⟨1, M', cn, rfl, Or.inl ⟨rfl, fun hf => absurd (a3.mpr hf) (by decide)⟩, a4, a5, a6, a7⟩
  · rw [if_neg (by decide), q1, Option.bind_some]
    dsimp only
    rcases q2 with rfl | rfl
    · rw [if_pos rfl]
      exact ⟨0, M', cn, rfl, Or.inr (Or.inr ⟨rfl, a3.mp rfl, fun hf => absurd (q4.mpr hf) (by decide)⟩), a4, a5, a6, a7⟩
    · rw [if_neg (by decide)]
      exact ⟨2, M', cn, rfl, Or.inr (Or.inl ⟨rfl, a3.mp rfl, q4.mp rfl⟩), a4, a5, a6, a7⟩
theorem m_inf {N : Nat} (hN : 600 ≤ N) (h : INV M n m a b e cc sn) (hmk : mask < 2 ^ m) : ∃ r M', f_X3_infeasible N (nI mask) M = some (r, M') ∧ (r = 0 ∨ r = 1) ∧ (r = 1 ↔ ¬ FeasS n m a b e sn mask) ∧ FM M M' ∧ INV M' n m a b e cc sn := by
  obtain ⟨M', f, a1, a2, a3, a4, a5⟩ := m_coll hN h hmk (x2 := 0) (w := n) (Or.inr ⟨Or.inl rfl, rfl⟩)
  have hf := a5.2.2.2.2.2.1
  have h9 := a5.2.2.2.2.1
  have hs := fs_m a4
  unfold f_X3_infeasible b_X3_infeasible_0
  rw [a1, Option.bind_some]
  by_cases f0 : f = 0
  · rw [h9, f0, if_pos nI_0]
    exact ⟨1, M', rfl, Or.inr rfl, ⟨fun _ q => by have := hs.mpr q; omega, fun _ => rfl⟩, a2, a3⟩
  · rw [h9, if_neg (nI_ne0 (by omega) (by omega))]
    exact ⟨0, M', rfl, Or.inl rfl, ⟨fun q => absurd q (by decide), fun q => absurd (hs.mp (by omega)) q⟩, a2, a3⟩
theorem m_grows {N : Nat} (hN : 600 ≤ N) (h : INV M n m a b e cc sn) : ∃ r M', f_X3_grows N M = some (r, M') ∧ (r = 0 ∨ r = 1) ∧ (r = 1 ↔ RiseS n m a b e cc sn) ∧ FM M M' ∧ INV M' n m a b e cc sn := by
  obtain ⟨M', f, a1, a2, a3, a4, a5⟩ := m_coll hN h (all_lt m) (x2 := 1) (w := n) (Or.inr ⟨Or.inr rfl, rfl⟩)
  have hf := a5.2.2.2.2.2.1
  obtain ⟨r, r1, r2, r3⟩ := grows_loop (N := N) a5 f 0 N 0 (by omega) (by omega) (Or.inl rfl)
  refine ⟨r, M', ?_, r2, ?_, a2, a3⟩
  · unfold f_X3_grows b_X3_grows_0
    rw [evry h, Option.bind_some]
    dsimp only
    rw [a1, Option.bind_some]
    exact r1
  · refine r3.trans (Iff.trans ⟨fun q => ?_, fun q => ?_⟩ (rs_m h.1.2.1 a4 a5))
    · rcases q with q | ⟨k, _, x⟩
      · exact absurd q (by decide)
      · exact ⟨k, x⟩
    · obtain ⟨k, x⟩ := q
      exact Or.inr ⟨k, Nat.zero_le _, x⟩
theorem m_endl {N j : Nat} (hN : 600 ≤ N) (hj : j < n) (h : INV M n m a b e cc sn) : ∃ r M', f_X3_endless N (nI j) M = some (r, M') ∧ (r = 0 ∨ r = 1) ∧ (r = 1 ↔ GrowS n m a b e sn j) ∧ FM M M' ∧ INV M' n m a b e cc sn := by
  obtain ⟨M', f, a1, a2, a3, a4, a5⟩ := m_coll hN h (all_lt m) (x2 := 1) (w := n) (Or.inr ⟨Or.inr rfl, rfl⟩)
  have hf := a5.2.2.2.2.2.1
  obtain ⟨r, r1, r2, r3⟩ := endl_loop (N := N) a5 hj f 0 N 0 (by omega) (by omega) (Or.inl rfl)
  refine ⟨r, M', ?_, r2, ?_, a2, a3⟩
  · unfold f_X3_endless b_X3_endless_0
    rw [evry h, Option.bind_some]
    dsimp only
    rw [a1, Option.bind_some]
    exact r1
  · refine r3.trans (Iff.trans ⟨fun q => ?_, fun q => ?_⟩ (gs_m h.1.2.1 hj a4))
    · rcases q with q | ⟨k, _, x⟩
      · exact absurd q (by decide)
      · exact ⟨k, x⟩
    · obtain ⟨k, x⟩ := q
      exact Or.inr ⟨k, Nat.zero_le _, x⟩
theorem m_status {N : Nat} (hN : 600 ≤ N) (h : INV M n m a b e cc sn) : ∃ st M', f_X3_status N M = some (st, M') ∧ StS n m a b e cc sn st ∧ FM M M' ∧ INV M' n m a b e cc sn := by
  obtain ⟨r, M1, a1, a2, a3, a4, a5⟩ := m_inf hN h (all_lt m)
  obtain ⟨q, M2, q1, q2, q3, q4, q5⟩ := m_grows hN a5
  unfold f_X3_status b_X3_status_0
  rw [evry h, Option.bind_some]
  dsimp only
  rw [a1, Option.bind_some]
  dsimp only
  rcases a2 with rfl | rfl
  · have hf : FeasS n m a b e sn (2 ^ m - 1) := Classical.byContradiction (fun hno => absurd (a3.mpr hno) (by decide))
    rw [if_pos rfl, q1, Option.bind_some]
    dsimp only
    rcases q2 with rfl | rfl
    · rw [if_pos rfl]
      exact ⟨0, M2, rfl, Or.inr (Or.inr ⟨rfl, hf, fun hr => absurd (q3.mpr hr) (by decide)⟩), a4.tr q4, q5⟩
    · rw [if_neg (by decide)]
      exact ⟨2, M2, rfl, Or.inr (Or.inl ⟨rfl, hf, q3.mp rfl⟩), a4.tr q4, q5⟩
  · rw [if_neg (by decide)]
    exact ⟨1, M1, rfl, Or.inl ⟨rfl, a3.mp rfl⟩, a4, a5⟩
/-! small things -/
abbrev inR (x : Int32) (n : Nat) : Prop := 0 ≤ x.toInt ∧ x.toInt < n

theorem inR_nI {x : Int32} {n : Nat} (h : inR x n) (hn : n < 2 ^ 31) : ∃ j, j < n ∧ x = nI j := by
  refine ⟨x.toInt.toNat, by have := h.1; have := h.2; omega, Int32.toInt_inj.mp ?_⟩
  have h1 := h.1
  have h2 := h.2
  rw [nI_toInt (by omega)]
  omega
theorem i0 : (0 : Int32).toInt = 0 := by decide
theorem hasI {M : Mm} {x : Int32} {n k : Nat} (hn : n < 2 ^ 31) (h : M.1 k = nI n) : (if x < 0 then some ((0 : Int32), M) else (if (M.1 k) ≤ x then some (0, M) else some (1, M))) = some (if inR x n then 1 else 0, M) := by
  rw [h]
  by_cases h0 : x < 0
  · rw [if_pos h0, if_neg (fun q => by have := Int32.lt_iff_toInt_lt.mp h0; rw [i0] at this; have := q.1; omega)]
  · have h0' : 0 ≤ x.toInt := by
      have : ¬ x.toInt < 0 := fun q => h0 (Int32.lt_iff_toInt_lt.mpr (by rw [i0]; exact q))
      omega
    rw [if_neg h0]
    by_cases h1 : nI n ≤ x
    · have := Int32.le_iff_toInt_le.mp h1
      rw [nI_toInt hn] at this
      rw [if_pos h1, if_neg (fun q => by have := q.2; omega)]
    · have : ¬ (n : Int) ≤ x.toInt := fun q => h1 (Int32.le_iff_toInt_le.mpr (by rw [nI_toInt hn]; exact q))
      rw [if_neg h1, if_pos ⟨h0', by omega⟩]
theorem hasV {N : Nat} {x : Int32} (h : CLS M n m a b e cc sn) (hn : n ≤ 4) : f_X2_hasVariable N x M = some (if inR x n then 1 else 0, M) := hasI (by omega) h.1
theorem hasR {N : Nat} {x : Int32} (h : CLS M n m a b e cc sn) (hm : m ≤ 3) : f_X2_hasRow N x M = some (if inR x m then 1 else 0, M) := hasI (by omega) h.2.1
theorem outs {N : Nat} {x lo hi : Int32} {M : Mm} : f_X3_outside N x lo hi M = some (if lo.toInt ≤ x.toInt ∧ x.toInt ≤ hi.toInt then 0 else 1, M) := by
  unfold f_X3_outside b_X3_outside_0
  by_cases h0 : x < lo
  · rw [if_pos h0, if_neg (fun q => by have := Int32.lt_iff_toInt_lt.mp h0; omega)]
  · have h0' : ¬ x.toInt < lo.toInt := fun q => h0 (Int32.lt_iff_toInt_lt.mpr q)
    rw [if_neg h0]
    by_cases h1 : x ≤ hi
    · have := Int32.le_iff_toInt_le.mp h1
      rw [if_pos h1, if_pos ⟨by omega, this⟩]
    · have : ¬ x.toInt ≤ hi.toInt := fun q => h1 (Int32.le_iff_toInt_le.mpr q)
      rw [if_neg h1, if_neg (fun q => this q.2)]
theorem pr_toInt {n : Nat} (hn : n < 2 ^ 31) : (nI n - 1).toInt = (n : Int) - 1 := by
  have e : (1 : Int32).toInt = 1 := by decide
  rw [Kit.i32_sub (by rw [nI_toInt hn, e]; omega) (by rw [nI_toInt hn, e]; omega), nI_toInt hn, e]
theorem outR {N : Nat} {x : Int32} {M : Mm} {n : Nat} (hn : n < 2 ^ 31) : f_X3_outside N x 0 (nI n - 1) M = some (if inR x n then 0 else 1, M) := by
  rw [outs, pr_toInt hn, i0]
  by_cases h : inR x n
  · rw [if_pos h, if_pos ⟨h.1, by have := h.2; omega⟩]
  · rw [if_neg h, if_neg (fun q => h ⟨q.1, by omega⟩)]
abbrev isW (x : Int32) : Prop := x = 0 ∨ x = 1

theorem isPr {N : Nat} {x : Int32} {M : Mm} : f_X2_isPart N x M = some (if isW x then 1 else 0, M) := by
  unfold f_X2_isPart b_X2_isPart_0
  by_cases h0 : x = 0
  · rw [if_pos h0, if_pos (Or.inl h0)]
  · rw [if_neg h0]
    by_cases h1 : x = 1
    · rw [if_pos h1, if_pos (Or.inr h1)]
    · rw [if_neg h1, if_neg (fun q => q.elim h0 h1)]
theorem outW {N : Nat} {x : Int32} {M : Mm} : f_X3_outside N x 0 1 M = some (if isW x then 0 else 1, M) := by
  have e : (1 : Int32).toInt = 1 := by decide
  rw [outs, i0, e]
  have key : (0 ≤ x.toInt ∧ x.toInt ≤ 1) ↔ isW x := by
    constructor
    · intro q
      have : x.toInt = 0 ∨ x.toInt = 1 := by omega
      rcases this with h | h
      · exact Or.inl (Int32.toInt_inj.mp (by rw [h, i0]))
      · exact Or.inr (Int32.toInt_inj.mp (by rw [h, e]))
    · intro q
      rcases q with rfl | rfl
      · rw [i0]; omega
      · rw [e]; omega
  by_cases h : isW x
  · rw [if_pos h, if_pos (key.mpr h)]
  · rw [if_neg h, if_neg (fun q => h (key.mp q))]
theorem w6 (M : Mm) (t : Int32) : (wI M 6 t).1 6 = t := pk_us (f := M.1) (k := 6)
theorem w6fm {M : Mm} {t : Int32} : FM M (wI M 6 t) := ⟨fun k hk => pk_un (by omega), fun _ _ => rfl, fun _ _ => rfl⟩
theorem ref1 {N : Nat} {x2 x3 x4 : Int32} {M : Mm} : f_X3_refuses N 1 x2 x3 x4 M = some (1, wI M 6 1) := by
  unfold f_X3_refuses b_X3_refuses_0 b_X3_refuses_35
  rw [if_neg (by decide), w6, if_neg (by decide)]
theorem ref2 {N : Nat} {x3 x4 : Int32} {M : Mm} : f_X3_refuses N 0 1 x3 x4 M = some (1, wI M 6 2) := by
  unfold f_X3_refuses b_X3_refuses_0 b_X3_refuses_35
  rw [if_pos rfl, if_neg (by decide), w6, if_neg (by decide)]
theorem ref3 {N : Nat} {x4 : Int32} {M : Mm} : f_X3_refuses N 0 0 1 x4 M = some (1, wI M 6 3) := by
  unfold f_X3_refuses b_X3_refuses_0 b_X3_refuses_35
  rw [if_pos rfl, if_pos rfl, if_neg (by decide), w6, if_neg (by decide)]
theorem ref4 {N : Nat} {M : Mm} : f_X3_refuses N 0 0 0 1 M = some (1, wI M 6 4) := by
  unfold f_X3_refuses b_X3_refuses_0 b_X3_refuses_35
  rw [if_pos rfl, if_pos rfl, if_pos rfl, if_neg (by decide), w6, if_neg (by decide)]
theorem ref0 {N : Nat} {M : Mm} : f_X3_refuses N 0 0 0 0 M = some (0, wI M 6 0) := by
  unfold f_X3_refuses b_X3_refuses_0 b_X3_refuses_35
  rw [if_pos rfl, if_pos rfl, if_pos rfl, if_pos rfl, w6, if_pos (by decide)]
theorem lnL5 : lnL 5 = 1 := by decide
theorem wOut {M : Mm} {r : Int64} : wL M 5 0 r = some (sL M 5 0 r) := wL_i (k := 5) (i := 0) (by rw [lnL5]; decide) r
theorem outFC {M : Mm} {r : Int64} : FC M (sL M 5 0 r) := ⟨fun _ _ _ => rfl, fun _ _ _ => rfl, fun κ h => sL_ne h.2.2⟩
theorem outAt {M : Mm} {r : Int64} : (sL M 5 0 r).2.2 5 0 = r := by rw [sL_at, if_pos ⟨rfl, rfl⟩]
theorem CON.out {E : Nat → Nat → Int} (h : CON M n m mask E sn cn) {r : Int64} : CON (sL M 5 0 r) n m mask E sn cn := h.kept rfl rfl (fun κ hκ => sL_ne (by omega))
theorem INV.out (h : INV M n m a b e cc sn) {r : Int64} : INV (sL M 5 0 r) n m a b e cc sn := ⟨h.1, h.2.1.fc outFC, fun mask hm h3 => by
  obtain ⟨cn, hc⟩ := h.2.2.1 mask hm h3
  exact ⟨cn, hc.out⟩, h.2.2.2.fc outFC⟩
end St
