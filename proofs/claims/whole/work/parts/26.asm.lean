/-! THE WORLD out of the cells that the law makes, in the order of their making -/
def wfT (θ : Th) (q : Nat → Nat) (rG : Nat → Nat) : va_W :=
  nwO θ (q 20) rG 3 :: (nwR θ rG 3 4 ++ [nwI θ (q 8) 4, nwJ θ (q 22) 4, nwI θ (q 9) 126,
    (q 3, .inr (3, [.int 1, .int 0, .ref (q 10), .ref (q 11), .ref (q 12), .ref (q 13), .ref (q 14), .int 0, .int 0, .int 0, .ref (q 15), .ref (q 16), .ref (q 17), .ref (q 23), .int 0, .ref (q 24), .ref (q 25), .ref (q 26), .int 0, .ref (q 18)])),
    nwI θ (q 10) 12, nwI θ (q 11) 3, nwI θ (q 12) 4, nwI θ (q 13) 3, nwI θ (q 14) 3, nwI θ (q 15) 45, nwI θ (q 16) 9, nwI θ (q 17) 9, nwJ θ (q 23) 30, nwJ θ (q 24) 650, nwJ θ (q 25) 130, nwJ θ (q 26) 130, nwI θ (q 18) 130, nwJ θ (q 27) 1])
def wfP (θ : Th) (q : Nat → Nat) (rE : Nat → Nat) (rR : Nat → Nat) : va_W :=
  (q 0, .inr (2, [.ref (q 1), .ref (q 2), .ref (q 9)])) :: (q 1, .inr (1, [.int 1, .int 0, .ref (q 19), .ref (q 4), .ref (q 5), .ref (q 6), .ref (q 7)])) :: nwO θ (q 19) rE 3 ::
   (nwR θ rE 3 6 ++ [nwI θ (q 4) 3, nwI θ (q 5) 3, nwI θ (q 6) 3, nwI θ (q 7) 4, (q 2, .inr (0, [.ref (q 21), .int 0, .int (-1), .ref (q 20), .ref (q 8), .ref (q 22)])), nwO θ (q 21) rR 126])
def WF (θ : Th) (q rE rR rG : Nat → Nat) : va_W := wfP θ q rE rR ++ (nwR θ rR 126 6 ++ wfT θ q rG)
def gm (k : Nat) : Nat := if k < 28 then [0, 1, 10, 145, 6, 7, 8, 9, 142, 144, 146, 147, 148, 149, 150, 151, 152, 153, 158, 2, 138, 11, 143, 154, 155, 156, 157, 159].getD k 0 else if k < 31 then k - 28 + 3 else if k < 34 then k - 31 + 139 else k - 34 + 12
def adm (q rE rR rG : Nat → Nat) : Nat → Nat := fun k => if k < 28 then q k else if k < 31 then rE (k - 28) else if k < 34 then rG (k - 31) else rR (k - 34)
def th1 (θ : Th) (q rE rR rG : Nat → Nat) : Th := (θ.1, θ.2.1, θ.2.2.1, adm q rE rR rG)
def M00 : Mm := (fun k => if k = 0 then 1 else if k = 3 then -1 else if k = 4 then 1 else 0, fun _ _ => 0, fun _ _ => 0)
theorem wfP_len {θ : Th} {q rE rR : Nat → Nat} : (wfP θ q rE rR).length = 12 := rfl
theorem nwR_len {θ : Th} {r : Nat → Nat} {n k : Nat} : (nwR θ r n k).length = n := by simp
theorem wf_lo {θ : Th} {q rE rR rG : Nat → Nat} {k : Nat} (h : k < 12) : (WF θ q rE rR rG)[k]? = (wfP θ q rE rR)[k]? := by
  unfold WF
  rw [List.getElem?_append_left (by rw [wfP_len]; exact h)]
theorem wf_hi {θ : Th} {q rE rR rG : Nat → Nat} {j : Nat} : (WF θ q rE rR rG)[138 + j]? = (wfT θ q rG)[j]? := by
  unfold WF
  rw [List.getElem?_append_right (by rw [wfP_len]; omega), wfP_len, List.getElem?_append_right (by rw [nwR_len]; omega), nwR_len, show 138 + j - 12 - 126 = j by omega]
theorem wf_mid {θ : Th} {q rE rR rG : Nat → Nat} {i : Nat} (h : i < 126) : (WF θ q rE rR rG)[12 + i]? = some (rR i, .inl (θ.2.1.2.1, 6, .inr (.inl (fun _ => 0)))) := by
  unfold WF
  rw [List.getElem?_append_right (by rw [wfP_len]; omega), wfP_len, List.getElem?_append_left (by rw [nwR_len]; omega), show 12 + i - 12 = i by omega]
  simp [h]
theorem gm_inj : ∀ i, i < 160 → ∀ j, j < 160 → gm i = gm j → i = j := by decide +kernel
theorem wl_len {θ : Th} {M : Mm} : (wl θ M).length = 160 := by
  unfold wl
  rw [List.length_append, List.length_append, List.length_append, wlo_len, wlA_len, wlO_len, wlL_len]
set_option maxRecDepth 100000 in
theorem wf_by {θ : Th} {q rE rR rG : Nat → Nat} (k : Nat) (x : Nat × va_E) (hx : (wl (th1 θ q rE rR rG) M00)[k]? = some x) : (WF θ q rE rR rG)[gm k]? = some x := by
  have hk : k < 160 := by
    have := (List.getElem?_eq_some_iff.mp hx).1
    rw [wl_len] at this
    exact this
  rw [← hx]
  by_cases h0 : k < 4
  · rw [wl_o h0]
    match k, h0 with
    | 0, _ => exact (wf_lo (by decide)).trans rfl
    | 1, _ => exact (wf_lo (by decide)).trans rfl
    | 2, _ => exact (wf_lo (by decide)).trans rfl
    | 3, _ => exact (wf_hi (j := 7)).trans rfl
  by_cases h1 : k < 19
  · obtain ⟨j, rfl⟩ : ∃ j, k = 4 + j := ⟨k - 4, by omega⟩
    have hj : j < 15 := by omega
    rw [wl_A hj]
    match j, hj with
    | 0, _ => exact (wf_lo (by decide)).trans rfl
    | 1, _ => exact (wf_lo (by decide)).trans rfl
    | 2, _ => exact (wf_lo (by decide)).trans rfl
    | 3, _ => exact (wf_lo (by decide)).trans rfl
    | 4, _ => exact (wf_hi (j := 4)).trans rfl
    | 5, _ => exact (wf_hi (j := 6)).trans rfl
    | 6, _ => exact (wf_hi (j := 8)).trans rfl
    | 7, _ => exact (wf_hi (j := 9)).trans rfl
    | 8, _ => exact (wf_hi (j := 10)).trans rfl
    | 9, _ => exact (wf_hi (j := 11)).trans rfl
    | 10, _ => exact (wf_hi (j := 12)).trans rfl
    | 11, _ => exact (wf_hi (j := 13)).trans rfl
    | 12, _ => exact (wf_hi (j := 14)).trans rfl
    | 13, _ => exact (wf_hi (j := 15)).trans rfl
    | 14, _ => exact (wf_hi (j := 20)).trans rfl
  by_cases h2 : k < 22
  · obtain ⟨j, rfl⟩ : ∃ j, k = 19 + j := ⟨k - 19, by omega⟩
    have hj : j < 3 := by omega
    rw [wl_O hj]
    match j, hj with
    | 0, _ =>
      refine (wf_lo (by decide)).trans (congrArg (fun f : Nat → Option Nat => (some (q 19, Sum.inl (θ.2.1.2.2, 3, Sum.inr (Sum.inr (Sum.inr (Sum.inr f))))) : Option (Nat × va_E))) (funext fun i => ?_))
      show (if i < 3 then some (rE i) else none) = if i < 3 then some (adm q rE rR rG (22 + (6 + i))) else none
      by_cases h : i < 3
      · rw [if_pos h, if_pos h]
        unfold adm
        rw [if_neg (by omega), if_pos (by omega), show 22 + (6 + i) - 28 = i by omega]
      · rw [if_neg h, if_neg h]
    | 1, _ =>
      refine (wf_hi (j := 0)).trans (congrArg (fun f : Nat → Option Nat => (some (q 20, Sum.inl (θ.2.1.2.2, 3, Sum.inr (Sum.inr (Sum.inr (Sum.inr f))))) : Option (Nat × va_E))) (funext fun i => ?_))
      show (if i < 3 then some (rG i) else none) = if i < 3 then some (adm q rE rR rG (22 + (9 + i))) else none
      by_cases h : i < 3
      · rw [if_pos h, if_pos h]
        unfold adm
        rw [if_neg (by omega), if_neg (by omega), if_pos (by omega), show 22 + (9 + i) - 31 = i by omega]
      · rw [if_neg h, if_neg h]
    | 2, _ =>
      refine (wf_lo (by decide)).trans (congrArg (fun f : Nat → Option Nat => (some (q 21, Sum.inl (θ.2.1.2.2, 126, Sum.inr (Sum.inr (Sum.inr (Sum.inr f))))) : Option (Nat × va_E))) (funext fun i => ?_))
      show (if i < 126 then some (rR i) else none) = if i < 126 then some (adm q rE rR rG (22 + (12 + i))) else none
      by_cases h : i < 126
      · rw [if_pos h, if_pos h]
        unfold adm
        rw [if_neg (by omega), if_neg (by omega), if_neg (by omega), show 22 + (12 + i) - 34 = i by omega]
      · rw [if_neg h, if_neg h]
  obtain ⟨j, rfl⟩ : ∃ j, k = 22 + j := ⟨k - 22, by omega⟩
  have hj : j < 138 := by omega
  rw [wl_L hj]
  by_cases h3 : j < 12
  · match j, h3 with
    | 0, _ => exact (wf_hi (j := 5)).trans rfl
    | 1, _ => exact (wf_hi (j := 16)).trans rfl
    | 2, _ => exact (wf_hi (j := 17)).trans rfl
    | 3, _ => exact (wf_hi (j := 18)).trans rfl
    | 4, _ => exact (wf_hi (j := 19)).trans rfl
    | 5, _ => exact (wf_hi (j := 21)).trans rfl
    | 6, _ => exact (wf_lo (by decide)).trans rfl
    | 7, _ => exact (wf_lo (by decide)).trans rfl
    | 8, _ => exact (wf_lo (by decide)).trans rfl
    | 9, _ => exact (wf_hi (j := 1)).trans rfl
    | 10, _ => exact (wf_hi (j := 2)).trans rfl
    | 11, _ => exact (wf_hi (j := 3)).trans rfl
  obtain ⟨i, rfl⟩ : ∃ i, j = 12 + i := ⟨j - 12, by omega⟩
  have hi : i < 126 := by omega
  have e1 : gm (22 + (12 + i)) = 12 + i := by
    unfold gm
    rw [if_neg (by omega), if_neg (by omega), if_neg (by omega)]
    omega
  have e2 : adm q rE rR rG (22 + (12 + i)) = rR i := by
    unfold adm
    rw [if_neg (by omega), if_neg (by omega), if_neg (by omega), show 22 + (12 + i) - 34 = i by omega]
  have e3 : lnL (12 + i) = 6 := by
    unfold lnL
    rw [if_neg (by omega), if_neg (by omega), if_neg (by omega), if_pos (by omega)]
  rw [e1, wf_mid hi]
  show _ = (some (adm q rE rR rG (22 + (12 + i)), Sum.inl (θ.2.1.2.1, lnL (12 + i), Sum.inr (Sum.inl (fun _ => 0)))) : Option (Nat × va_E))
  rw [e2, e3]
theorem wf_wd {θ : Th} {q rE rR rG : Nat → Nat} {H : Heap} (hP : va_P θ.2.2.1 vwCl (WF θ q rE rR rG) H) (hD : va_D (tA θ) (WF θ q rE rR rG)) : wd (th1 θ q rE rR rG) M00 H :=
  ⟨hP.by gm wf_by, hD.by gm wf_by (fun i j hi hj e => gm_inj i (by rw [wl_len] at hi; exact hi) j (by rw [wl_len] at hj; exact hj) e)⟩
