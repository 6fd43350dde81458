def J_L_law_557 (θ : Th) (p : Program) (l : Launch) (e : Env) (s : State) (m : MethodId) (below : List Frame) (meth : Method) (c : Code) (b n : Nat) (g : Int32 → Int32 → Int32 → Int32 → Mm → Option (Int32 × Mm)) : Prop := ∀ (x4 : Int32) (x5 : Int32) (s0 : Int32) (s1 : Int32) (M : Mm) (M1 : Mm), g x4 x5 s0 s1 M = some (1, M1) → ∀ (H : Heap) (locs : List Loc) (ls : Array Slot), lv_has ls 8 [(0, .ref b), (1, .ref (tad θ 0)), (2, .ref (tad θ 3)), (3, .ref (tad θ (22 + 5))), (4, .int x4), (5, .int x5)] → wd θ M H → va_S (tA θ) s.heap H locs → W p l e room_1 s m #[Value.ref b] below meth c H locs (601024 - n) (7293033 - 6 * n) (lw_Z below #[Value.ref b] s) (F0 m 557 ls [.int s0, .int s1, .ref (tad θ 3)])
def J_L_law_524 (θ : Th) (p : Program) (l : Launch) (e : Env) (s : State) (m : MethodId) (below : List Frame) (meth : Method) (c : Code) (b n : Nat) (g : Int32 → Int32 → Int32 → Mm → Option (Int32 × Mm)) : Prop := ∀ (x4 : Int32) (s0 : Int32) (s1 : Int32) (M : Mm) (M1 : Mm), g x4 s0 s1 M = some (1, M1) → ∀ (H : Heap) (locs : List Loc) (ls : Array Slot), lv_has ls 8 [(0, .ref b), (1, .ref (tad θ 0)), (2, .ref (tad θ 3)), (3, .ref (tad θ (22 + 5))), (4, .int x4)] → wd θ M H → va_S (tA θ) s.heap H locs → W p l e room_1 s m #[Value.ref b] below meth c H locs (601024 - (n + 1)) (7293033 - 6 * (n + 1)) (lw_Z below #[Value.ref b] s) (F0 m 524 ls [.int s0, .int s1, .ref (tad θ 0)])
def J_L_law_652 (θ : Th) (p : Program) (l : Launch) (e : Env) (s : State) (m : MethodId) (below : List Frame) (meth : Method) (c : Code) (b n : Nat) (g : Int32 → Int64 → Int64 → Mm → Option (Int32 × Mm)) : Prop := ∀ (x4 : Int32) (s0 : Int64) (s1 : Int64) (M : Mm) (M1 : Mm), g x4 s0 s1 M = some (1, M1) → ∀ (H : Heap) (locs : List Loc) (ls : Array Slot), lv_has ls 8 [(0, .ref b), (1, .ref (tad θ 0)), (2, .ref (tad θ 3)), (3, .ref (tad θ (22 + 5))), (4, .int x4)] → wd θ M H → va_S (tA θ) s.heap H locs → W p l e room_1 s m #[Value.ref b] below meth c H locs (601024 - n) (7293033 - 6 * n) (lw_Z below #[Value.ref b] s) (F0 m 652 ls [.long s0, .long s1])
def J_L_law_23 (θ : Th) (p : Program) (l : Launch) (e : Env) (s : State) (m : MethodId) (below : List Frame) (meth : Method) (c : Code) (b n : Nat) (g : Int32 → Mm → Option (Int32 × Mm)) : Prop := ∀ (x4 : Int32) (M : Mm) (M1 : Mm), g x4 M = some (1, M1) → ∀ (H : Heap) (locs : List Loc) (ls : Array Slot), lv_has ls 8 [(0, .ref b), (1, .ref (tad θ 0)), (2, .ref (tad θ 3)), (3, .ref (tad θ (22 + 5))), (4, .int x4)] → wd θ M H → va_S (tA θ) s.heap H locs → W p l e room_1 s m #[Value.ref b] below meth c H locs (601024 - n) (7293033 - 6 * n) (lw_Z below #[Value.ref b] s) (F0 m 23 ls [])
def b_L_law_557 (N L : Nat) (xs : Nat → Int32) (k23 : Int32 → Mm → Option (Int32 × Mm)) (x4 : Int32) (x5 : Int32) (s0 : Int32) (s1 : Int32) (M : Mm) : Option (Int32 × Mm) :=
  (rS L xs (x4 + 3)).bind fun v562 => (f_X3_range N s1 s0 v562 M).bind fun (r563, M563) => (f_X3_thrown N M563).bind fun (r569, M569) => (if r569 = x5 then (if x5 = 0 then (rL M569 5 0).bind fun v586 => (if (lg_cmp v586 r563) = 0 then k23 (x4 + 4) M569 else some (0, M569)) else k23 (x4 + 4) M569) else some (0, M569))
set_option maxRecDepth 100000 in
set_option maxHeartbeats 8000000 in
theorem t_L_law_557 {θ : Th} {p : Program} {l : Launch} {e : Env} {s : State} {m : MethodId} {below : List Frame} {meth : Method} {c : Code} {b n : Nat} (C : Cx θ p s m #[Value.ref b] meth c cL_law 8 RL (some .boolean)) {L : Nat} {xs : Nat → Int32} (LX : va_X b L xs s s.heap ∧ b < s.heap.size ∧ θ.1 = s.heap.size ∧ n ≤ 512 ∧ l.stackTraces = false ∧ zz θ s s.heap) (N : Nat) {k23 : Int32 → Mm → Option (Int32 × Mm)} (hk23 : J_L_law_23 θ p l e s m below meth c b n k23) : J_L_law_557 θ p l e s m below meth c b n (b_L_law_557 N L xs k23) := by
  intro x4 x5 s0 s1 M M1 h H locs ls hl hw hS
  unfold b_L_law_557 at h
  refine lv_aload_n C.1 C.2.1 dL_law_557 rfl (lv_at hl 0 rfl) ?_
  refine lv_iload C.1 C.2.1 dL_law_558 (lv_at hl 4 rfl) ?_
  refine lv_iconst (v := 3) C.1 C.2.1 dL_law_560 (by decide) ?_
  refine lv_iadd C.1 C.2.1 dL_law_561 ?_
  obtain ⟨v562, h562, h⟩ := bind_s h
  refine k_sld C LX.1 LX.2.1 LX.2.2.1 hS h562 dL_law_562 ?_
  obtain ⟨⟨r563, M563⟩, h563, h⟩ := bind_s h
  dsimp only at h
  refine k_cl (k_runV (As := [.int s1, .int s0, .int v562]) C cf_X3_range cv_X3_range w_699 rc3 (c_X3_range θ l N h563) ⟨rfl, rfl, Nat.le_of_ble_eq_true rfl, Nat.le_of_ble_eq_true rfl⟩ rfl hl.1 rfl (Nat.le_of_ble_eq_true rfl) dL_law_563 ⟨Nat.sub_le _ _, Nat.sub_le _ _⟩ hw) hS (fun H locs hw hS => ?_)
  refine lv_lstore (lv' := [(6, .long r563), (0, .ref b), (1, .ref (tad θ 0)), (2, .ref (tad θ 3)), (3, .ref (tad θ (22 + 5))), (4, .int x4), (5, .int x5)]) C.1 C.2.1 dL_law_566 hl (by decide) rfl (fun ls hl => ?_)
  refine lv_aload_n C.1 C.2.1 dL_law_568 rfl (lv_at hl 3 rfl) ?_
  obtain ⟨⟨r569, M569⟩, h569, h⟩ := bind_s h
  dsimp only at h
  refine k_ci (k_runV (As := []) C cf_X3_thrown cv_X3_thrown w_586 rc3 (c_X3_thrown θ l N h569) ⟨rfl, rfl, Nat.le_of_ble_eq_true rfl, Nat.le_of_ble_eq_true rfl⟩ rfl hl.1 rfl (Nat.le_of_ble_eq_true rfl) dL_law_569 ⟨Nat.sub_le _ _, Nat.sub_le _ _⟩ hw) hS (fun H locs hw hS => ?_)
  refine lv_iload C.1 C.2.1 dL_law_572 (lv_at hl 6 rfl) ?_
  refine lv_icmp_eq (tgt := 579) C.1 C.2.1 dL_law_574 (by decide) (fun c574 => ?_) (fun c574 => ?_)
  · have h := it_t c574 h
    refine lv_iload C.1 C.2.1 dL_law_579 (lv_at hl 6 rfl) ?_
    refine lv_if_ne (tgt := 595) C.1 C.2.1 dL_law_581 (by decide) (fun c581 => ?_) (fun c581 => ?_)
    · have h := it_f c581 h
      refine lv_goto (tgt := 785) C.1 C.2.1 dL_law_595 (by decide) ?_
      refine lv_iinc (v := (x4 + 4)) (lv' := [(4, .int (x4 + 4)), (6, .long r563), (0, .ref b), (1, .ref (tad θ 0)), (2, .ref (tad θ 3)), (3, .ref (tad θ (22 + 5))), (5, .int x5)]) C.1 C.2.1 dL_law_785 hl (k := 5) rfl rfl (by decide) rfl (fun ls hl => ?_)
      refine lv_goto (tgt := 23) C.1 C.2.1 dL_law_788 (by decide) ?_
      exact hk23 _ _ _ h _ _ ls (lv_sub hl [2, 3, 4, 5, 0] rfl) hw hS
    · have h := it_t c581 h
      refine lv_aload_n C.1 C.2.1 dL_law_584 rfl (lv_at hl 4 rfl) ?_
      refine lv_iconst (v := 0) C.1 C.2.1 dL_law_585 (by decide) ?_
      obtain ⟨v586, h586, h⟩ := bind_s h
      refine k_lald C hw 5 h586 dL_law_586 ?_
      refine lv_lload C.1 C.2.1 dL_law_587 (lv_at hl 0 rfl) ?_
      refine W.lcmp C.1 C.2.1 dL_law_589 ?_
      refine lv_if_eq (tgt := 595) C.1 C.2.1 dL_law_590 (by decide) (fun c590 => ?_) (fun c590 => ?_)
      · have h := it_t c590 h
        refine lv_goto (tgt := 785) C.1 C.2.1 dL_law_595 (by decide) ?_
        refine lv_iinc (v := (x4 + 4)) (lv' := [(4, .int (x4 + 4)), (6, .long r563), (0, .ref b), (1, .ref (tad θ 0)), (2, .ref (tad θ 3)), (3, .ref (tad θ (22 + 5))), (5, .int x5)]) C.1 C.2.1 dL_law_785 hl (k := 5) rfl rfl (by decide) rfl (fun ls hl => ?_)
        refine lv_goto (tgt := 23) C.1 C.2.1 dL_law_788 (by decide) ?_
        exact hk23 _ _ _ h _ _ ls (lv_sub hl [2, 3, 4, 5, 0] rfl) hw hS
      · have h := it_f c590 h
        refine lv_iconst (v := 0) C.1 C.2.1 dL_law_593 (by decide) ?_
        exact absurd (Prod.mk.inj (Option.some.inj h)).1 (by decide)
  · have h := it_f c574 h
    refine lv_iconst (v := 0) C.1 C.2.1 dL_law_577 (by decide) ?_
    exact absurd (Prod.mk.inj (Option.some.inj h)).1 (by decide)
def b_L_law_524 (N L : Nat) (xs : Nat → Int32) (k23 : Int32 → Mm → Option (Int32 × Mm)) (x4 : Int32) (s0 : Int32) (s1 : Int32) (M : Mm) : Option (Int32 × Mm) :=
  (rS L xs (x4 + 3)).bind fun v529 => (f_L_range N s1 s0 v529 M).bind fun (r531, M531) => (rS L xs (x4 + 1)).bind fun v542 => (rS L xs (x4 + 2)).bind fun v548 => (if v548 = 0 then b_L_law_557 N L xs k23 x4 r531 0 v542 M531 else b_L_law_557 N L xs k23 x4 r531 1 v542 M531)
set_option maxRecDepth 100000 in
set_option maxHeartbeats 8000000 in
theorem t_L_law_524 {θ : Th} {p : Program} {l : Launch} {e : Env} {s : State} {m : MethodId} {below : List Frame} {meth : Method} {c : Code} {b n : Nat} (C : Cx θ p s m #[Value.ref b] meth c cL_law 8 RL (some .boolean)) {L : Nat} {xs : Nat → Int32} (LX : va_X b L xs s s.heap ∧ b < s.heap.size ∧ θ.1 = s.heap.size ∧ n ≤ 512 ∧ l.stackTraces = false ∧ zz θ s s.heap) (N : Nat) {k23 : Int32 → Mm → Option (Int32 × Mm)} (hk23 : J_L_law_23 θ p l e s m below meth c b n k23) : J_L_law_524 θ p l e s m below meth c b n (b_L_law_524 N L xs k23) := by
  intro x4 s0 s1 M M1 h H locs ls hl hw hS
  unfold b_L_law_524 at h
  refine lv_aload_n C.1 C.2.1 dL_law_524 rfl (lv_at hl 0 rfl) ?_
  refine lv_iload C.1 C.2.1 dL_law_525 (lv_at hl 4 rfl) ?_
  refine lv_iconst (v := 3) C.1 C.2.1 dL_law_527 (by decide) ?_
  refine lv_iadd C.1 C.2.1 dL_law_528 ?_
  obtain ⟨v529, h529, h⟩ := bind_s h
  refine k_sld C LX.1 LX.2.1 LX.2.2.1 hS h529 dL_law_529 ?_
  refine lv_aload_n C.1 C.2.1 dL_law_530 rfl (lv_at hl 3 rfl) ?_
  obtain ⟨⟨r531, M531⟩, h531, h⟩ := bind_s h
  dsimp only at h
  refine kh_i (As := [.ref (tad θ 0), .int s1, .int s0, .int v529, .ref (tad θ (22 + 5))]) C ch_L_range w_459 (c_L_range θ l LX.2.2.2.2.1 N h531) ⟨rfl, rfl, Nat.le_of_ble_eq_true rfl, Nat.le_of_ble_eq_true rfl⟩ rfl hl.1 rfl (Nat.le_of_ble_eq_true rfl) dL_law_531 (law_f LX.2.2.2.1) hw LX.2.2.2.2.2 hS (fun H locs hw hS => ?_)
  refine W.widen (k := 601024 - n) (n := 7293033 - 6 * n) (law_c LX.2.2.2.1) (law_s LX.2.2.2.1) ?_
  refine lv_istore (lv' := [(5, .int r531), (0, .ref b), (1, .ref (tad θ 0)), (2, .ref (tad θ 3)), (3, .ref (tad θ (22 + 5))), (4, .int x4)]) C.1 C.2.1 dL_law_534 hl (by decide) rfl (fun ls hl => ?_)
  refine lv_aload_n C.1 C.2.1 dL_law_536 rfl (lv_at hl 3 rfl) ?_
  refine lv_aload_n C.1 C.2.1 dL_law_537 rfl (lv_at hl 1 rfl) ?_
  refine lv_iload C.1 C.2.1 dL_law_538 (lv_at hl 5 rfl) ?_
  refine lv_iconst (v := 1) C.1 C.2.1 dL_law_540 (by decide) ?_
  refine lv_iadd C.1 C.2.1 dL_law_541 ?_
  obtain ⟨v542, h542, h⟩ := bind_s h
  refine k_sld C LX.1 LX.2.1 LX.2.2.1 hS h542 dL_law_542 ?_
  refine lv_aload_n C.1 C.2.1 dL_law_543 rfl (lv_at hl 1 rfl) ?_
  refine lv_iload C.1 C.2.1 dL_law_544 (lv_at hl 5 rfl) ?_
  refine lv_iconst (v := 2) C.1 C.2.1 dL_law_546 (by decide) ?_
  refine lv_iadd C.1 C.2.1 dL_law_547 ?_
  obtain ⟨v548, h548, h⟩ := bind_s h
  refine k_sld C LX.1 LX.2.1 LX.2.2.1 hS h548 dL_law_548 ?_
  refine lv_if_eq (tgt := 556) C.1 C.2.1 dL_law_549 (by decide) (fun c549 => ?_) (fun c549 => ?_)
  · have h := it_t c549 h
    refine lv_iconst (v := 0) C.1 C.2.1 dL_law_556 (by decide) ?_
    exact t_L_law_557 C LX N hk23 _ _ _ _ _ _ h _ _ ls (lv_sub hl [1, 2, 3, 4, 5, 0] rfl) hw hS
  · have h := it_f c549 h
    refine lv_iconst (v := 1) C.1 C.2.1 dL_law_552 (by decide) ?_
    refine lv_goto (tgt := 557) C.1 C.2.1 dL_law_553 (by decide) ?_
    exact t_L_law_557 C LX N hk23 _ _ _ _ _ _ h _ _ ls (lv_sub hl [1, 2, 3, 4, 5, 0] rfl) hw hS
def b_L_law_652 (N L : Nat) (xs : Nat → Int32) (k23 : Int32 → Mm → Option (Int32 × Mm)) (x4 : Int32) (s0 : Int64) (s1 : Int64) (M : Mm) : Option (Int32 × Mm) :=
  (if (lg_cmp s1 s0) = 0 then k23 (x4 + 4) M else some (0, M))
set_option maxRecDepth 100000 in
set_option maxHeartbeats 8000000 in
theorem t_L_law_652 {θ : Th} {p : Program} {l : Launch} {e : Env} {s : State} {m : MethodId} {below : List Frame} {meth : Method} {c : Code} {b n : Nat} (C : Cx θ p s m #[Value.ref b] meth c cL_law 8 RL (some .boolean)) {L : Nat} {xs : Nat → Int32} (LX : va_X b L xs s s.heap ∧ b < s.heap.size ∧ θ.1 = s.heap.size ∧ n ≤ 512 ∧ l.stackTraces = false ∧ zz θ s s.heap) (N : Nat) {k23 : Int32 → Mm → Option (Int32 × Mm)} (hk23 : J_L_law_23 θ p l e s m below meth c b n k23) : J_L_law_652 θ p l e s m below meth c b n (b_L_law_652 N L xs k23) := by
  intro x4 s0 s1 M M1 h H locs ls hl hw hS
  unfold b_L_law_652 at h
  refine W.lcmp C.1 C.2.1 dL_law_652 ?_
  refine lv_if_eq (tgt := 658) C.1 C.2.1 dL_law_653 (by decide) (fun c653 => ?_) (fun c653 => ?_)
  · have h := it_t c653 h
    refine lv_goto (tgt := 785) C.1 C.2.1 dL_law_658 (by decide) ?_
    refine lv_iinc (v := (x4 + 4)) (lv' := [(4, .int (x4 + 4)), (0, .ref b), (1, .ref (tad θ 0)), (2, .ref (tad θ 3)), (3, .ref (tad θ (22 + 5)))]) C.1 C.2.1 dL_law_785 hl (k := 4) rfl rfl (by decide) rfl (fun ls hl => ?_)
    refine lv_goto (tgt := 23) C.1 C.2.1 dL_law_788 (by decide) ?_
    exact hk23 _ _ _ h _ _ ls (lv_sub hl [1, 2, 3, 4, 0] rfl) hw hS
  · have h := it_f c653 h
    refine lv_iconst (v := 0) C.1 C.2.1 dL_law_656 (by decide) ?_
    exact absurd (Prod.mk.inj (Option.some.inj h)).1 (by decide)
def F_L_law_23 (N L : Nat) (xs : Nat → Int32) (k23 : Int32 → Mm → Option (Int32 × Mm)) (x4 : Int32) (M : Mm) : Option (Int32 × Mm) :=
  (if ((Int32.ofNat L) - 4) < x4 then some (1, M) else (rS L xs x4).bind fun v35 => (if (v35 &&& 15) = 0 then (rS L xs (x4 + 1)).bind fun v110 => (rS L xs (x4 + 2)).bind fun v116 => (f_L_begin N v110 v116 M).bind fun (r117, M117) => (rS L xs (x4 + 1)).bind fun v128 => (rS L xs (x4 + 2)).bind fun v134 => (f_X3_begin N v128 v134 M117).bind fun M135 => (f_X3_thrown N M135).bind fun (r139, M139) => (if r139 = r117 then k23 (x4 + 4) M139 else some (0, M139)) else (if (v35 &&& 15) = 1 then (rS L xs (x4 + 1)).bind fun v158 => (rS L xs (x4 + 2)).bind fun v164 => (rS L xs (x4 + 3)).bind fun v170 => (f_L_coefficient N v158 v164 v170 M).bind fun (r171, M171) => (rS L xs (x4 + 1)).bind fun v182 => (rS L xs (x4 + 2)).bind fun v188 => (rS L xs (x4 + 3)).bind fun v194 => (f_X3_coefficient N v182 v188 v194 M171).bind fun M195 => (f_X3_thrown N M195).bind fun (r199, M199) => (if r199 = r171 then k23 (x4 + 4) M199 else some (0, M199)) else (if (v35 &&& 15) = 2 then (rS L xs (x4 + 1)).bind fun v218 => (rS L xs (x4 + 2)).bind fun v224 => (rS L xs (x4 + 3)).bind fun v230 => (f_L_row N v218 v224 v230 M).bind fun (r231, M231) => (rS L xs (x4 + 1)).bind fun v242 => (rS L xs (x4 + 2)).bind fun v248 => (rS L xs (x4 + 3)).bind fun v254 => (f_X3_row N v242 v248 v254 M231).bind fun M255 => (f_X3_thrown N M255).bind fun (r259, M259) => (if r259 = r231 then k23 (x4 + 4) M259 else some (0, M259)) else (if (v35 &&& 15) = 3 then (rS L xs (x4 + 1)).bind fun v278 => (rS L xs (x4 + 2)).bind fun v284 => (f_L_want N v278 v284 M).bind fun (r285, M285) => (rS L xs (x4 + 1)).bind fun v296 => (rS L xs (x4 + 2)).bind fun v302 => (f_X3_want N v296 v302 M285).bind fun M303 => (f_X3_thrown N M303).bind fun (r307, M307) => (if r307 = r285 then k23 (x4 + 4) M307 else some (0, M307)) else (if (v35 &&& 15) = 4 then (rS L xs (x4 + 1)).bind fun v326 => (rS L xs (x4 + 2)).bind fun v332 => (f_L_drift N v326 v332 M).bind fun (r333, M333) => (rS L xs (x4 + 1)).bind fun v344 => (rS L xs (x4 + 2)).bind fun v350 => (f_X3_drift N v344 v350 M333).bind fun M351 => (f_X3_thrown N M351).bind fun (r355, M355) => (if r355 = r333 then k23 (x4 + 4) M355 else some (0, M355)) else (if (v35 &&& 15) = 5 then (f_X2_solve N M).bind fun (r369, M369) => (f_X3_solve N M369).bind fun (r373, M373) => (if r369 = r373 then k23 (x4 + 4) M373 else some (0, M373)) else (if (v35 &&& 15) = 6 then (rS L xs (x4 + 1)).bind fun v387 => (f_L_value N v387 M).bind fun (r389, M389) => (rS L xs (x4 + 1)).bind fun v400 => (f_X3_value N v400 M389).bind fun (r401, M401) => (f_X3_thrown N M401).bind fun (r407, M407) => (if r407 = r389 then (if r389 = 0 then (rL M407 5 0).bind fun v424 => (if (lg_cmp v424 r401) = 0 then k23 (x4 + 4) M407 else some (0, M407)) else k23 (x4 + 4) M407) else some (0, M407)) else (if (v35 &&& 15) = 7 then (rS L xs (x4 + 1)).bind fun v442 => (rS L xs (x4 + 2)).bind fun v448 => (f_L_point N v442 v448 M).bind fun (r450, M450) => (rS L xs (x4 + 1)).bind fun v461 => (rS L xs (x4 + 2)).bind fun v467 => (f_X3_point N v461 v467 M450).bind fun (r468, M468) => (f_X3_thrown N M468).bind fun (r474, M474) => (if r474 = r450 then (if r450 = 0 then (rL M474 5 0).bind fun v491 => (if (lg_cmp v491 r468) = 0 then k23 (x4 + 4) M474 else some (0, M474)) else k23 (x4 + 4) M474) else some (0, M474)) else (if (v35 &&& 15) = 8 then (rS L xs (x4 + 1)).bind fun v509 => (rS L xs (x4 + 2)).bind fun v515 => (if v515 = 0 then b_L_law_524 N L xs k23 x4 0 v509 M else b_L_law_524 N L xs k23 x4 1 v509 M) else (if (v35 &&& 15) = 9 then (rS L xs (x4 + 1)).bind fun v604 => (f_L_tight N v604 M).bind fun (r606, M606) => (rS L xs (x4 + 1)).bind fun v617 => (f_X3_tight N v617 M606).bind fun (r618, M618) => (f_X3_thrown N M618).bind fun (r624, M624) => (if r624 = r606 then (if r606 = 0 then (rL M624 5 0).bind fun v641 => (if r618 = 0 then b_L_law_652 N L xs k23 x4 0 v641 M624 else b_L_law_652 N L xs k23 x4 1 v641 M624) else k23 (x4 + 4) M624) else some (0, M624)) else (if (v35 &&& 15) = 10 then (f_L_conflict N M).bind fun (r663, M663) => (f_X3_conflict N M663).bind fun (r669, M669) => (f_X3_thrown N M669).bind fun (r675, M675) => (if r675 = r663 then (if r663 = 0 then (rL M675 5 0).bind fun v692 => (if (lg_cmp v692 (Int32.toInt64 r669)) = 0 then k23 (x4 + 4) M675 else some (0, M675)) else k23 (x4 + 4) M675) else some (0, M675)) else (if (v35 &&& 15) = 11 then (f_X2_corners N M).bind fun (r706, M706) => (f_X3_corners N M706).bind fun (r710, M710) => (if r706 = r710 then k23 (x4 + 4) M710 else some (0, M710)) else (if (v35 &&& 15) = 12 then (rS L xs (x4 + 1)).bind fun v724 => (rS L xs (x4 + 2)).bind fun v730 => (f_L_corner N v724 v730 M).bind fun (r732, M732) => (rS L xs (x4 + 1)).bind fun v743 => (rS L xs (x4 + 2)).bind fun v749 => (f_X3_corner N v743 v749 M732).bind fun (r750, M750) => (f_X3_thrown N M750).bind fun (r756, M756) => (if r756 = r732 then (if r732 = 0 then (rL M756 5 0).bind fun v773 => (if (lg_cmp v773 r750) = 0 then k23 (x4 + 4) M756 else some (0, M756)) else k23 (x4 + 4) M756) else some (0, M756)) else k23 (x4 + 4) M))))))))))))))
set_option maxRecDepth 100000 in
set_option maxHeartbeats 8000000 in
theorem tF_L_law_23 {θ : Th} {p : Program} {l : Launch} {e : Env} {s : State} {m : MethodId} {below : List Frame} {meth : Method} {c : Code} {b n : Nat} (C : Cx θ p s m #[Value.ref b] meth c cL_law 8 RL (some .boolean)) {L : Nat} {xs : Nat → Int32} (LX : va_X b L xs s s.heap ∧ b < s.heap.size ∧ θ.1 = s.heap.size ∧ n ≤ 512 ∧ l.stackTraces = false ∧ zz θ s s.heap) (N : Nat) {k23 : Int32 → Mm → Option (Int32 × Mm)} (hk23 : J_L_law_23 θ p l e s m below meth c b n k23) : J_L_law_23 θ p l e s m below meth c b (n + 1) (F_L_law_23 N L xs k23) := by
  intro x4 M M1 h H locs ls hl hw hS
  unfold F_L_law_23 at h
  refine lv_iload C.1 C.2.1 dL_law_23 (lv_at hl 4 rfl) ?_
  refine lv_aload_n C.1 C.2.1 dL_law_25 rfl (lv_at hl 0 rfl) ?_
  refine va_slen C.1 C.2.1 LX.1 LX.2.1 (by show ¬ θ.1 ≤ b; rw [LX.2.2.1]; exact Nat.not_le.mpr LX.2.1) hS dL_law_26 ?_
  refine lv_iconst (v := 4) C.1 C.2.1 dL_law_27 (by decide) ?_
  refine lv_isub C.1 C.2.1 dL_law_28 ?_
  refine lv_icmp_gt (tgt := 791) C.1 C.2.1 dL_law_29 (by decide) (fun c29 => ?_) (fun c29 => ?_)
  · have h := it_t c29 h
    refine lv_iconst (v := 1) C.1 C.2.1 dL_law_791 (by decide) ?_
    refine va_forget (fun q hq => by rw [← LX.2.2.1]; exact hS.2.2 q hq) ?_
    refine W.widen (k := 601024) (n := 7293033) (Nat.sub_le _ _) (Nat.sub_le _ _) ?_
    exact lw_ret C.1 C.2.1 C.2.2.2.2.2.2.1 C.2.2.2.2.2.2.2 dL_law_792
  · have h := it_f c29 h
    refine lv_aload_n C.1 C.2.1 dL_law_32 rfl (lv_at hl 0 rfl) ?_
    refine lv_iload C.1 C.2.1 dL_law_33 (lv_at hl 4 rfl) ?_
    obtain ⟨v35, h35, h⟩ := bind_s h
    refine k_sld C LX.1 LX.2.1 LX.2.2.1 hS h35 dL_law_35 ?_
    refine lv_bipush (v := 15) C.1 C.2.1 dL_law_36 (by decide) ?_
    refine lv_iand C.1 C.2.1 dL_law_38 ?_
    refine lv_topi (fun z39 ez39 => ?_)
    rw [← ez39] at h
    by_cases t0 : z39 = 0
    · have h := it_t t0 h
      clear ez39
      subst t0
      refine lv_tableIn (off := 65) (tgt := 104) C.1 C.2.1 dL_law_39 (by decide) (by decide) (by decide) (by decide) ?_
      refine lv_aload_n C.1 C.2.1 dL_law_104 rfl (lv_at hl 1 rfl) ?_
      refine lv_aload_n C.1 C.2.1 dL_law_105 rfl (lv_at hl 0 rfl) ?_
      refine lv_iload C.1 C.2.1 dL_law_106 (lv_at hl 4 rfl) ?_
      refine lv_iconst (v := 1) C.1 C.2.1 dL_law_108 (by decide) ?_
      refine lv_iadd C.1 C.2.1 dL_law_109 ?_
      obtain ⟨v110, h110, h⟩ := bind_s h
      refine k_sld C LX.1 LX.2.1 LX.2.2.1 hS h110 dL_law_110 ?_
      refine lv_aload_n C.1 C.2.1 dL_law_111 rfl (lv_at hl 0 rfl) ?_
      refine lv_iload C.1 C.2.1 dL_law_112 (lv_at hl 4 rfl) ?_
      refine lv_iconst (v := 2) C.1 C.2.1 dL_law_114 (by decide) ?_
      refine lv_iadd C.1 C.2.1 dL_law_115 ?_
      obtain ⟨v116, h116, h⟩ := bind_s h
      refine k_sld C LX.1 LX.2.1 LX.2.2.1 hS h116 dL_law_116 ?_
      obtain ⟨⟨r117, M117⟩, h117, h⟩ := bind_s h
      dsimp only at h
      refine kh_i (As := [.ref (tad θ 0), .int v110, .int v116]) C ch_L_begin w_249 (c_L_begin θ l LX.2.2.2.2.1 N h117) ⟨rfl, rfl, Nat.le_of_ble_eq_true rfl, Nat.le_of_ble_eq_true rfl⟩ rfl hl.1 rfl (Nat.le_of_ble_eq_true rfl) dL_law_117 (law_f LX.2.2.2.1) hw LX.2.2.2.2.2 hS (fun H locs hw hS => ?_)
      refine W.widen (k := 601024 - n) (n := 7293033 - 6 * n) (law_c LX.2.2.2.1) (law_s LX.2.2.2.1) ?_
      refine lv_istore (lv' := [(5, .int r117), (0, .ref b), (1, .ref (tad θ 0)), (2, .ref (tad θ 3)), (3, .ref (tad θ (22 + 5))), (4, .int x4)]) C.1 C.2.1 dL_law_120 hl (by decide) rfl (fun ls hl => ?_)
      refine lv_aload_n C.1 C.2.1 dL_law_122 rfl (lv_at hl 3 rfl) ?_
      refine lv_aload_n C.1 C.2.1 dL_law_123 rfl (lv_at hl 1 rfl) ?_
      refine lv_iload C.1 C.2.1 dL_law_124 (lv_at hl 5 rfl) ?_
      refine lv_iconst (v := 1) C.1 C.2.1 dL_law_126 (by decide) ?_
      refine lv_iadd C.1 C.2.1 dL_law_127 ?_
      obtain ⟨v128, h128, h⟩ := bind_s h
      refine k_sld C LX.1 LX.2.1 LX.2.2.1 hS h128 dL_law_128 ?_
      refine lv_aload_n C.1 C.2.1 dL_law_129 rfl (lv_at hl 1 rfl) ?_
      refine lv_iload C.1 C.2.1 dL_law_130 (lv_at hl 5 rfl) ?_
      refine lv_iconst (v := 2) C.1 C.2.1 dL_law_132 (by decide) ?_
      refine lv_iadd C.1 C.2.1 dL_law_133 ?_
      obtain ⟨v134, h134, h⟩ := bind_s h
      refine k_sld C LX.1 LX.2.1 LX.2.2.1 hS h134 dL_law_134 ?_
      obtain ⟨M135, h135, h⟩ := bind_s h
      refine k_cv (k_runV (As := [.int v128, .int v134]) C cf_X3_begin cv_X3_begin w_590 rc3 (c_X3_begin θ l N h135) ⟨rfl, rfl, Nat.le_of_ble_eq_true rfl, Nat.le_of_ble_eq_true rfl⟩ rfl hl.1 rfl (Nat.le_of_ble_eq_true rfl) dL_law_135 ⟨Nat.sub_le _ _, Nat.sub_le _ _⟩ hw) hS (fun H locs hw hS => ?_)
      refine lv_aload_n C.1 C.2.1 dL_law_138 rfl (lv_at hl 3 rfl) ?_
      obtain ⟨⟨r139, M139⟩, h139, h⟩ := bind_s h
      dsimp only at h
      refine k_ci (k_runV (As := []) C cf_X3_thrown cv_X3_thrown w_586 rc3 (c_X3_thrown θ l N h139) ⟨rfl, rfl, Nat.le_of_ble_eq_true rfl, Nat.le_of_ble_eq_true rfl⟩ rfl hl.1 rfl (Nat.le_of_ble_eq_true rfl) dL_law_139 ⟨Nat.sub_le _ _, Nat.sub_le _ _⟩ hw) hS (fun H locs hw hS => ?_)
      refine lv_iload C.1 C.2.1 dL_law_142 (lv_at hl 0 rfl) ?_
      refine lv_icmp_eq (tgt := 149) C.1 C.2.1 dL_law_144 (by decide) (fun c144 => ?_) (fun c144 => ?_)
      · have h := it_t c144 h
        refine lv_goto (tgt := 785) C.1 C.2.1 dL_law_149 (by decide) ?_
        refine lv_iinc (v := (x4 + 4)) (lv' := [(4, .int (x4 + 4)), (5, .int r117), (0, .ref b), (1, .ref (tad θ 0)), (2, .ref (tad θ 3)), (3, .ref (tad θ (22 + 5)))]) C.1 C.2.1 dL_law_785 hl (k := 5) rfl rfl (by decide) rfl (fun ls hl => ?_)
        refine lv_goto (tgt := 23) C.1 C.2.1 dL_law_788 (by decide) ?_
        exact hk23 _ _ _ h _ _ ls (lv_sub hl [2, 3, 4, 5, 0] rfl) hw hS
      · have h := it_f c144 h
        refine lv_iconst (v := 0) C.1 C.2.1 dL_law_147 (by decide) ?_
        exact absurd (Prod.mk.inj (Option.some.inj h)).1 (by decide)
    have h := it_f t0 h
    by_cases t1 : z39 = 1
    · have h := it_t t1 h
      clear ez39
      subst t1
      refine lv_tableIn (off := 113) (tgt := 152) C.1 C.2.1 dL_law_39 (by decide) (by decide) (by decide) (by decide) ?_
      refine lv_aload_n C.1 C.2.1 dL_law_152 rfl (lv_at hl 1 rfl) ?_
      refine lv_aload_n C.1 C.2.1 dL_law_153 rfl (lv_at hl 0 rfl) ?_
      refine lv_iload C.1 C.2.1 dL_law_154 (lv_at hl 4 rfl) ?_
      refine lv_iconst (v := 1) C.1 C.2.1 dL_law_156 (by decide) ?_
      refine lv_iadd C.1 C.2.1 dL_law_157 ?_
      obtain ⟨v158, h158, h⟩ := bind_s h
      refine k_sld C LX.1 LX.2.1 LX.2.2.1 hS h158 dL_law_158 ?_
      refine lv_aload_n C.1 C.2.1 dL_law_159 rfl (lv_at hl 0 rfl) ?_
      refine lv_iload C.1 C.2.1 dL_law_160 (lv_at hl 4 rfl) ?_
      refine lv_iconst (v := 2) C.1 C.2.1 dL_law_162 (by decide) ?_
      refine lv_iadd C.1 C.2.1 dL_law_163 ?_
      obtain ⟨v164, h164, h⟩ := bind_s h
      refine k_sld C LX.1 LX.2.1 LX.2.2.1 hS h164 dL_law_164 ?_
      refine lv_aload_n C.1 C.2.1 dL_law_165 rfl (lv_at hl 0 rfl) ?_
      refine lv_iload C.1 C.2.1 dL_law_166 (lv_at hl 4 rfl) ?_
      refine lv_iconst (v := 3) C.1 C.2.1 dL_law_168 (by decide) ?_
      refine lv_iadd C.1 C.2.1 dL_law_169 ?_
      obtain ⟨v170, h170, h⟩ := bind_s h
      refine k_sld C LX.1 LX.2.1 LX.2.2.1 hS h170 dL_law_170 ?_
      obtain ⟨⟨r171, M171⟩, h171, h⟩ := bind_s h
      dsimp only at h
      refine kh_i (As := [.ref (tad θ 0), .int v158, .int v164, .int v170]) C ch_L_coefficient w_329 (c_L_coefficient θ l LX.2.2.2.2.1 N h171) ⟨rfl, rfl, Nat.le_of_ble_eq_true rfl, Nat.le_of_ble_eq_true rfl⟩ rfl hl.1 rfl (Nat.le_of_ble_eq_true rfl) dL_law_171 (law_f LX.2.2.2.1) hw LX.2.2.2.2.2 hS (fun H locs hw hS => ?_)
      refine W.widen (k := 601024 - n) (n := 7293033 - 6 * n) (law_c LX.2.2.2.1) (law_s LX.2.2.2.1) ?_
      refine lv_istore (lv' := [(5, .int r171), (0, .ref b), (1, .ref (tad θ 0)), (2, .ref (tad θ 3)), (3, .ref (tad θ (22 + 5))), (4, .int x4)]) C.1 C.2.1 dL_law_174 hl (by decide) rfl (fun ls hl => ?_)
      refine lv_aload_n C.1 C.2.1 dL_law_176 rfl (lv_at hl 3 rfl) ?_
      refine lv_aload_n C.1 C.2.1 dL_law_177 rfl (lv_at hl 1 rfl) ?_
      refine lv_iload C.1 C.2.1 dL_law_178 (lv_at hl 5 rfl) ?_
      refine lv_iconst (v := 1) C.1 C.2.1 dL_law_180 (by decide) ?_
      refine lv_iadd C.1 C.2.1 dL_law_181 ?_
      obtain ⟨v182, h182, h⟩ := bind_s h
      refine k_sld C LX.1 LX.2.1 LX.2.2.1 hS h182 dL_law_182 ?_
      refine lv_aload_n C.1 C.2.1 dL_law_183 rfl (lv_at hl 1 rfl) ?_
      refine lv_iload C.1 C.2.1 dL_law_184 (lv_at hl 5 rfl) ?_
      refine lv_iconst (v := 2) C.1 C.2.1 dL_law_186 (by decide) ?_
      refine lv_iadd C.1 C.2.1 dL_law_187 ?_
      obtain ⟨v188, h188, h⟩ := bind_s h
      refine k_sld C LX.1 LX.2.1 LX.2.2.1 hS h188 dL_law_188 ?_
      refine lv_aload_n C.1 C.2.1 dL_law_189 rfl (lv_at hl 1 rfl) ?_
      refine lv_iload C.1 C.2.1 dL_law_190 (lv_at hl 5 rfl) ?_
      refine lv_iconst (v := 3) C.1 C.2.1 dL_law_192 (by decide) ?_
      refine lv_iadd C.1 C.2.1 dL_law_193 ?_
      obtain ⟨v194, h194, h⟩ := bind_s h
      refine k_sld C LX.1 LX.2.1 LX.2.2.1 hS h194 dL_law_194 ?_
      obtain ⟨M195, h195, h⟩ := bind_s h
      refine k_cv (k_runV (As := [.int v182, .int v188, .int v194]) C cf_X3_coefficient cv_X3_coefficient w_601 rc3 (c_X3_coefficient θ l N h195) ⟨rfl, rfl, Nat.le_of_ble_eq_true rfl, Nat.le_of_ble_eq_true rfl⟩ rfl hl.1 rfl (Nat.le_of_ble_eq_true rfl) dL_law_195 ⟨Nat.sub_le _ _, Nat.sub_le _ _⟩ hw) hS (fun H locs hw hS => ?_)
      refine lv_aload_n C.1 C.2.1 dL_law_198 rfl (lv_at hl 3 rfl) ?_
      obtain ⟨⟨r199, M199⟩, h199, h⟩ := bind_s h
      dsimp only at h
      refine k_ci (k_runV (As := []) C cf_X3_thrown cv_X3_thrown w_586 rc3 (c_X3_thrown θ l N h199) ⟨rfl, rfl, Nat.le_of_ble_eq_true rfl, Nat.le_of_ble_eq_true rfl⟩ rfl hl.1 rfl (Nat.le_of_ble_eq_true rfl) dL_law_199 ⟨Nat.sub_le _ _, Nat.sub_le _ _⟩ hw) hS (fun H locs hw hS => ?_)
      refine lv_iload C.1 C.2.1 dL_law_202 (lv_at hl 0 rfl) ?_
      refine lv_icmp_eq (tgt := 209) C.1 C.2.1 dL_law_204 (by decide) (fun c204 => ?_) (fun c204 => ?_)
      · have h := it_t c204 h
        refine lv_goto (tgt := 785) C.1 C.2.1 dL_law_209 (by decide) ?_
        refine lv_iinc (v := (x4 + 4)) (lv' := [(4, .int (x4 + 4)), (5, .int r171), (0, .ref b), (1, .ref (tad θ 0)), (2, .ref (tad θ 3)), (3, .ref (tad θ (22 + 5)))]) C.1 C.2.1 dL_law_785 hl (k := 5) rfl rfl (by decide) rfl (fun ls hl => ?_)
        refine lv_goto (tgt := 23) C.1 C.2.1 dL_law_788 (by decide) ?_
        exact hk23 _ _ _ h _ _ ls (lv_sub hl [2, 3, 4, 5, 0] rfl) hw hS
      · have h := it_f c204 h
        refine lv_iconst (v := 0) C.1 C.2.1 dL_law_207 (by decide) ?_
        exact absurd (Prod.mk.inj (Option.some.inj h)).1 (by decide)
    have h := it_f t1 h
    by_cases t2 : z39 = 2
    · have h := it_t t2 h
      clear ez39
      subst t2
      refine lv_tableIn (off := 173) (tgt := 212) C.1 C.2.1 dL_law_39 (by decide) (by decide) (by decide) (by decide) ?_
      refine lv_aload_n C.1 C.2.1 dL_law_212 rfl (lv_at hl 1 rfl) ?_
      refine lv_aload_n C.1 C.2.1 dL_law_213 rfl (lv_at hl 0 rfl) ?_
      refine lv_iload C.1 C.2.1 dL_law_214 (lv_at hl 4 rfl) ?_
      refine lv_iconst (v := 1) C.1 C.2.1 dL_law_216 (by decide) ?_
      refine lv_iadd C.1 C.2.1 dL_law_217 ?_
      obtain ⟨v218, h218, h⟩ := bind_s h
      refine k_sld C LX.1 LX.2.1 LX.2.2.1 hS h218 dL_law_218 ?_
      refine lv_aload_n C.1 C.2.1 dL_law_219 rfl (lv_at hl 0 rfl) ?_
      refine lv_iload C.1 C.2.1 dL_law_220 (lv_at hl 4 rfl) ?_
      refine lv_iconst (v := 2) C.1 C.2.1 dL_law_222 (by decide) ?_
      refine lv_iadd C.1 C.2.1 dL_law_223 ?_
      obtain ⟨v224, h224, h⟩ := bind_s h
      refine k_sld C LX.1 LX.2.1 LX.2.2.1 hS h224 dL_law_224 ?_
      refine lv_aload_n C.1 C.2.1 dL_law_225 rfl (lv_at hl 0 rfl) ?_
      refine lv_iload C.1 C.2.1 dL_law_226 (lv_at hl 4 rfl) ?_
      refine lv_iconst (v := 3) C.1 C.2.1 dL_law_228 (by decide) ?_
      refine lv_iadd C.1 C.2.1 dL_law_229 ?_
      obtain ⟨v230, h230, h⟩ := bind_s h
      refine k_sld C LX.1 LX.2.1 LX.2.2.1 hS h230 dL_law_230 ?_
      obtain ⟨⟨r231, M231⟩, h231, h⟩ := bind_s h
      dsimp only at h
      refine kh_i (As := [.ref (tad θ 0), .int v218, .int v224, .int v230]) C ch_L_row w_367 (c_L_row θ l LX.2.2.2.2.1 N h231) ⟨rfl, rfl, Nat.le_of_ble_eq_true rfl, Nat.le_of_ble_eq_true rfl⟩ rfl hl.1 rfl (Nat.le_of_ble_eq_true rfl) dL_law_231 (law_f LX.2.2.2.1) hw LX.2.2.2.2.2 hS (fun H locs hw hS => ?_)
      refine W.widen (k := 601024 - n) (n := 7293033 - 6 * n) (law_c LX.2.2.2.1) (law_s LX.2.2.2.1) ?_
      refine lv_istore (lv' := [(5, .int r231), (0, .ref b), (1, .ref (tad θ 0)), (2, .ref (tad θ 3)), (3, .ref (tad θ (22 + 5))), (4, .int x4)]) C.1 C.2.1 dL_law_234 hl (by decide) rfl (fun ls hl => ?_)
      refine lv_aload_n C.1 C.2.1 dL_law_236 rfl (lv_at hl 3 rfl) ?_
      refine lv_aload_n C.1 C.2.1 dL_law_237 rfl (lv_at hl 1 rfl) ?_
      refine lv_iload C.1 C.2.1 dL_law_238 (lv_at hl 5 rfl) ?_
      refine lv_iconst (v := 1) C.1 C.2.1 dL_law_240 (by decide) ?_
      refine lv_iadd C.1 C.2.1 dL_law_241 ?_
      obtain ⟨v242, h242, h⟩ := bind_s h
      refine k_sld C LX.1 LX.2.1 LX.2.2.1 hS h242 dL_law_242 ?_
      refine lv_aload_n C.1 C.2.1 dL_law_243 rfl (lv_at hl 1 rfl) ?_
      refine lv_iload C.1 C.2.1 dL_law_244 (lv_at hl 5 rfl) ?_
      refine lv_iconst (v := 2) C.1 C.2.1 dL_law_246 (by decide) ?_
      refine lv_iadd C.1 C.2.1 dL_law_247 ?_
      obtain ⟨v248, h248, h⟩ := bind_s h
      refine k_sld C LX.1 LX.2.1 LX.2.2.1 hS h248 dL_law_248 ?_
      refine lv_aload_n C.1 C.2.1 dL_law_249 rfl (lv_at hl 1 rfl) ?_
      refine lv_iload C.1 C.2.1 dL_law_250 (lv_at hl 5 rfl) ?_
      refine lv_iconst (v := 3) C.1 C.2.1 dL_law_252 (by decide) ?_
      refine lv_iadd C.1 C.2.1 dL_law_253 ?_
      obtain ⟨v254, h254, h⟩ := bind_s h
      refine k_sld C LX.1 LX.2.1 LX.2.2.1 hS h254 dL_law_254 ?_
      obtain ⟨M255, h255, h⟩ := bind_s h
      refine k_cv (k_runV (As := [.int v242, .int v248, .int v254]) C cf_X3_row cv_X3_row w_605 rc3 (c_X3_row θ l N h255) ⟨rfl, rfl, Nat.le_of_ble_eq_true rfl, Nat.le_of_ble_eq_true rfl⟩ rfl hl.1 rfl (Nat.le_of_ble_eq_true rfl) dL_law_255 ⟨Nat.sub_le _ _, Nat.sub_le _ _⟩ hw) hS (fun H locs hw hS => ?_)
      refine lv_aload_n C.1 C.2.1 dL_law_258 rfl (lv_at hl 3 rfl) ?_
      obtain ⟨⟨r259, M259⟩, h259, h⟩ := bind_s h
      dsimp only at h
      refine k_ci (k_runV (As := []) C cf_X3_thrown cv_X3_thrown w_586 rc3 (c_X3_thrown θ l N h259) ⟨rfl, rfl, Nat.le_of_ble_eq_true rfl, Nat.le_of_ble_eq_true rfl⟩ rfl hl.1 rfl (Nat.le_of_ble_eq_true rfl) dL_law_259 ⟨Nat.sub_le _ _, Nat.sub_le _ _⟩ hw) hS (fun H locs hw hS => ?_)
      refine lv_iload C.1 C.2.1 dL_law_262 (lv_at hl 0 rfl) ?_
      refine lv_icmp_eq (tgt := 269) C.1 C.2.1 dL_law_264 (by decide) (fun c264 => ?_) (fun c264 => ?_)
      · have h := it_t c264 h
        refine lv_goto (tgt := 785) C.1 C.2.1 dL_law_269 (by decide) ?_
        refine lv_iinc (v := (x4 + 4)) (lv' := [(4, .int (x4 + 4)), (5, .int r231), (0, .ref b), (1, .ref (tad θ 0)), (2, .ref (tad θ 3)), (3, .ref (tad θ (22 + 5)))]) C.1 C.2.1 dL_law_785 hl (k := 5) rfl rfl (by decide) rfl (fun ls hl => ?_)
        refine lv_goto (tgt := 23) C.1 C.2.1 dL_law_788 (by decide) ?_
        exact hk23 _ _ _ h _ _ ls (lv_sub hl [2, 3, 4, 5, 0] rfl) hw hS
      · have h := it_f c264 h
        refine lv_iconst (v := 0) C.1 C.2.1 dL_law_267 (by decide) ?_
        exact absurd (Prod.mk.inj (Option.some.inj h)).1 (by decide)
    have h := it_f t2 h
    by_cases t3 : z39 = 3
    · have h := it_t t3 h
      clear ez39
      subst t3
      refine lv_tableIn (off := 233) (tgt := 272) C.1 C.2.1 dL_law_39 (by decide) (by decide) (by decide) (by decide) ?_
      refine lv_aload_n C.1 C.2.1 dL_law_272 rfl (lv_at hl 1 rfl) ?_
      refine lv_aload_n C.1 C.2.1 dL_law_273 rfl (lv_at hl 0 rfl) ?_
      refine lv_iload C.1 C.2.1 dL_law_274 (lv_at hl 4 rfl) ?_
      refine lv_iconst (v := 1) C.1 C.2.1 dL_law_276 (by decide) ?_
      refine lv_iadd C.1 C.2.1 dL_law_277 ?_
      obtain ⟨v278, h278, h⟩ := bind_s h
      refine k_sld C LX.1 LX.2.1 LX.2.2.1 hS h278 dL_law_278 ?_
      refine lv_aload_n C.1 C.2.1 dL_law_279 rfl (lv_at hl 0 rfl) ?_
      refine lv_iload C.1 C.2.1 dL_law_280 (lv_at hl 4 rfl) ?_
      refine lv_iconst (v := 2) C.1 C.2.1 dL_law_282 (by decide) ?_
      refine lv_iadd C.1 C.2.1 dL_law_283 ?_
      obtain ⟨v284, h284, h⟩ := bind_s h
      refine k_sld C LX.1 LX.2.1 LX.2.2.1 hS h284 dL_law_284 ?_
      obtain ⟨⟨r285, M285⟩, h285, h⟩ := bind_s h
      dsimp only at h
      refine kh_i (As := [.ref (tad θ 0), .int v278, .int v284]) C ch_L_want w_382 (c_L_want θ l LX.2.2.2.2.1 N h285) ⟨rfl, rfl, Nat.le_of_ble_eq_true rfl, Nat.le_of_ble_eq_true rfl⟩ rfl hl.1 rfl (Nat.le_of_ble_eq_true rfl) dL_law_285 (law_f LX.2.2.2.1) hw LX.2.2.2.2.2 hS (fun H locs hw hS => ?_)
      refine W.widen (k := 601024 - n) (n := 7293033 - 6 * n) (law_c LX.2.2.2.1) (law_s LX.2.2.2.1) ?_
      refine lv_istore (lv' := [(5, .int r285), (0, .ref b), (1, .ref (tad θ 0)), (2, .ref (tad θ 3)), (3, .ref (tad θ (22 + 5))), (4, .int x4)]) C.1 C.2.1 dL_law_288 hl (by decide) rfl (fun ls hl => ?_)
      refine lv_aload_n C.1 C.2.1 dL_law_290 rfl (lv_at hl 3 rfl) ?_
      refine lv_aload_n C.1 C.2.1 dL_law_291 rfl (lv_at hl 1 rfl) ?_
      refine lv_iload C.1 C.2.1 dL_law_292 (lv_at hl 5 rfl) ?_
      refine lv_iconst (v := 1) C.1 C.2.1 dL_law_294 (by decide) ?_
      refine lv_iadd C.1 C.2.1 dL_law_295 ?_
      obtain ⟨v296, h296, h⟩ := bind_s h
      refine k_sld C LX.1 LX.2.1 LX.2.2.1 hS h296 dL_law_296 ?_
      refine lv_aload_n C.1 C.2.1 dL_law_297 rfl (lv_at hl 1 rfl) ?_
      refine lv_iload C.1 C.2.1 dL_law_298 (lv_at hl 5 rfl) ?_
      refine lv_iconst (v := 2) C.1 C.2.1 dL_law_300 (by decide) ?_
      refine lv_iadd C.1 C.2.1 dL_law_301 ?_
      obtain ⟨v302, h302, h⟩ := bind_s h
      refine k_sld C LX.1 LX.2.1 LX.2.2.1 hS h302 dL_law_302 ?_
      obtain ⟨M303, h303, h⟩ := bind_s h
      refine k_cv (k_runV (As := [.int v296, .int v302]) C cf_X3_want cv_X3_want w_609 rc3 (c_X3_want θ l N h303) ⟨rfl, rfl, Nat.le_of_ble_eq_true rfl, Nat.le_of_ble_eq_true rfl⟩ rfl hl.1 rfl (Nat.le_of_ble_eq_true rfl) dL_law_303 ⟨Nat.sub_le _ _, Nat.sub_le _ _⟩ hw) hS (fun H locs hw hS => ?_)
      refine lv_aload_n C.1 C.2.1 dL_law_306 rfl (lv_at hl 3 rfl) ?_
      obtain ⟨⟨r307, M307⟩, h307, h⟩ := bind_s h
      dsimp only at h
      refine k_ci (k_runV (As := []) C cf_X3_thrown cv_X3_thrown w_586 rc3 (c_X3_thrown θ l N h307) ⟨rfl, rfl, Nat.le_of_ble_eq_true rfl, Nat.le_of_ble_eq_true rfl⟩ rfl hl.1 rfl (Nat.le_of_ble_eq_true rfl) dL_law_307 ⟨Nat.sub_le _ _, Nat.sub_le _ _⟩ hw) hS (fun H locs hw hS => ?_)
      refine lv_iload C.1 C.2.1 dL_law_310 (lv_at hl 0 rfl) ?_
      refine lv_icmp_eq (tgt := 317) C.1 C.2.1 dL_law_312 (by decide) (fun c312 => ?_) (fun c312 => ?_)
      · have h := it_t c312 h
        refine lv_goto (tgt := 785) C.1 C.2.1 dL_law_317 (by decide) ?_
        refine lv_iinc (v := (x4 + 4)) (lv' := [(4, .int (x4 + 4)), (5, .int r285), (0, .ref b), (1, .ref (tad θ 0)), (2, .ref (tad θ 3)), (3, .ref (tad θ (22 + 5)))]) C.1 C.2.1 dL_law_785 hl (k := 5) rfl rfl (by decide) rfl (fun ls hl => ?_)
        refine lv_goto (tgt := 23) C.1 C.2.1 dL_law_788 (by decide) ?_
        exact hk23 _ _ _ h _ _ ls (lv_sub hl [2, 3, 4, 5, 0] rfl) hw hS
      · have h := it_f c312 h
        refine lv_iconst (v := 0) C.1 C.2.1 dL_law_315 (by decide) ?_
        exact absurd (Prod.mk.inj (Option.some.inj h)).1 (by decide)
    have h := it_f t3 h
    by_cases t4 : z39 = 4
    · have h := it_t t4 h
      clear ez39
      subst t4
      refine lv_tableIn (off := 281) (tgt := 320) C.1 C.2.1 dL_law_39 (by decide) (by decide) (by decide) (by decide) ?_
      refine lv_aload_n C.1 C.2.1 dL_law_320 rfl (lv_at hl 1 rfl) ?_
      refine lv_aload_n C.1 C.2.1 dL_law_321 rfl (lv_at hl 0 rfl) ?_
      refine lv_iload C.1 C.2.1 dL_law_322 (lv_at hl 4 rfl) ?_
      refine lv_iconst (v := 1) C.1 C.2.1 dL_law_324 (by decide) ?_
      refine lv_iadd C.1 C.2.1 dL_law_325 ?_
      obtain ⟨v326, h326, h⟩ := bind_s h
      refine k_sld C LX.1 LX.2.1 LX.2.2.1 hS h326 dL_law_326 ?_
      refine lv_aload_n C.1 C.2.1 dL_law_327 rfl (lv_at hl 0 rfl) ?_
      refine lv_iload C.1 C.2.1 dL_law_328 (lv_at hl 4 rfl) ?_
      refine lv_iconst (v := 2) C.1 C.2.1 dL_law_330 (by decide) ?_
      refine lv_iadd C.1 C.2.1 dL_law_331 ?_
      obtain ⟨v332, h332, h⟩ := bind_s h
      refine k_sld C LX.1 LX.2.1 LX.2.2.1 hS h332 dL_law_332 ?_
      obtain ⟨⟨r333, M333⟩, h333, h⟩ := bind_s h
      dsimp only at h
      refine kh_i (As := [.ref (tad θ 0), .int v326, .int v332]) C ch_L_drift w_393 (c_L_drift θ l LX.2.2.2.2.1 N h333) ⟨rfl, rfl, Nat.le_of_ble_eq_true rfl, Nat.le_of_ble_eq_true rfl⟩ rfl hl.1 rfl (Nat.le_of_ble_eq_true rfl) dL_law_333 (law_f LX.2.2.2.1) hw LX.2.2.2.2.2 hS (fun H locs hw hS => ?_)
      refine W.widen (k := 601024 - n) (n := 7293033 - 6 * n) (law_c LX.2.2.2.1) (law_s LX.2.2.2.1) ?_
      refine lv_istore (lv' := [(5, .int r333), (0, .ref b), (1, .ref (tad θ 0)), (2, .ref (tad θ 3)), (3, .ref (tad θ (22 + 5))), (4, .int x4)]) C.1 C.2.1 dL_law_336 hl (by decide) rfl (fun ls hl => ?_)
      refine lv_aload_n C.1 C.2.1 dL_law_338 rfl (lv_at hl 3 rfl) ?_
      refine lv_aload_n C.1 C.2.1 dL_law_339 rfl (lv_at hl 1 rfl) ?_
      refine lv_iload C.1 C.2.1 dL_law_340 (lv_at hl 5 rfl) ?_
      refine lv_iconst (v := 1) C.1 C.2.1 dL_law_342 (by decide) ?_
      refine lv_iadd C.1 C.2.1 dL_law_343 ?_
      obtain ⟨v344, h344, h⟩ := bind_s h
      refine k_sld C LX.1 LX.2.1 LX.2.2.1 hS h344 dL_law_344 ?_
      refine lv_aload_n C.1 C.2.1 dL_law_345 rfl (lv_at hl 1 rfl) ?_
      refine lv_iload C.1 C.2.1 dL_law_346 (lv_at hl 5 rfl) ?_
      refine lv_iconst (v := 2) C.1 C.2.1 dL_law_348 (by decide) ?_
      refine lv_iadd C.1 C.2.1 dL_law_349 ?_
      obtain ⟨v350, h350, h⟩ := bind_s h
      refine k_sld C LX.1 LX.2.1 LX.2.2.1 hS h350 dL_law_350 ?_
      obtain ⟨M351, h351, h⟩ := bind_s h
      refine k_cv (k_runV (As := [.int v344, .int v350]) C cf_X3_drift cv_X3_drift w_613 rc3 (c_X3_drift θ l N h351) ⟨rfl, rfl, Nat.le_of_ble_eq_true rfl, Nat.le_of_ble_eq_true rfl⟩ rfl hl.1 rfl (Nat.le_of_ble_eq_true rfl) dL_law_351 ⟨Nat.sub_le _ _, Nat.sub_le _ _⟩ hw) hS (fun H locs hw hS => ?_)
      refine lv_aload_n C.1 C.2.1 dL_law_354 rfl (lv_at hl 3 rfl) ?_
      obtain ⟨⟨r355, M355⟩, h355, h⟩ := bind_s h
      dsimp only at h
      refine k_ci (k_runV (As := []) C cf_X3_thrown cv_X3_thrown w_586 rc3 (c_X3_thrown θ l N h355) ⟨rfl, rfl, Nat.le_of_ble_eq_true rfl, Nat.le_of_ble_eq_true rfl⟩ rfl hl.1 rfl (Nat.le_of_ble_eq_true rfl) dL_law_355 ⟨Nat.sub_le _ _, Nat.sub_le _ _⟩ hw) hS (fun H locs hw hS => ?_)
      refine lv_iload C.1 C.2.1 dL_law_358 (lv_at hl 0 rfl) ?_
      refine lv_icmp_eq (tgt := 365) C.1 C.2.1 dL_law_360 (by decide) (fun c360 => ?_) (fun c360 => ?_)
      · have h := it_t c360 h
        refine lv_goto (tgt := 785) C.1 C.2.1 dL_law_365 (by decide) ?_
        refine lv_iinc (v := (x4 + 4)) (lv' := [(4, .int (x4 + 4)), (5, .int r333), (0, .ref b), (1, .ref (tad θ 0)), (2, .ref (tad θ 3)), (3, .ref (tad θ (22 + 5)))]) C.1 C.2.1 dL_law_785 hl (k := 5) rfl rfl (by decide) rfl (fun ls hl => ?_)
        refine lv_goto (tgt := 23) C.1 C.2.1 dL_law_788 (by decide) ?_
        exact hk23 _ _ _ h _ _ ls (lv_sub hl [2, 3, 4, 5, 0] rfl) hw hS
      · have h := it_f c360 h
        refine lv_iconst (v := 0) C.1 C.2.1 dL_law_363 (by decide) ?_
        exact absurd (Prod.mk.inj (Option.some.inj h)).1 (by decide)
    have h := it_f t4 h
    by_cases t5 : z39 = 5
    · have h := it_t t5 h
      clear ez39
      subst t5
      refine lv_tableIn (off := 329) (tgt := 368) C.1 C.2.1 dL_law_39 (by decide) (by decide) (by decide) (by decide) ?_
      refine lv_aload_n C.1 C.2.1 dL_law_368 rfl (lv_at hl 1 rfl) ?_
      obtain ⟨⟨r369, M369⟩, h369, h⟩ := bind_s h
      dsimp only at h
      refine k_ci (k_runV (As := []) C cf_X2_solve cv_X2_solve w_139 rc0 (c_X2_solve θ l N h369) ⟨rfl, rfl, Nat.le_of_ble_eq_true rfl, Nat.le_of_ble_eq_true rfl⟩ rfl hl.1 rfl (Nat.le_of_ble_eq_true rfl) dL_law_369 ⟨Nat.sub_le _ _, Nat.sub_le _ _⟩ hw) hS (fun H locs hw hS => ?_)
      refine lv_aload_n C.1 C.2.1 dL_law_372 rfl (lv_at hl 2 rfl) ?_
      obtain ⟨⟨r373, M373⟩, h373, h⟩ := bind_s h
      dsimp only at h
      refine k_ci (k_runV (As := []) C cf_X3_solve cv_X3_solve w_617 rc3 (c_X3_solve θ l N h373) ⟨rfl, rfl, Nat.le_of_ble_eq_true rfl, Nat.le_of_ble_eq_true rfl⟩ rfl hl.1 rfl (Nat.le_of_ble_eq_true rfl) dL_law_373 ⟨Nat.sub_le _ _, Nat.sub_le _ _⟩ hw) hS (fun H locs hw hS => ?_)
      refine lv_icmp_eq (tgt := 785) C.1 C.2.1 dL_law_376 (by decide) (fun c376 => ?_) (fun c376 => ?_)
      · have h := it_t c376 h
        refine lv_iinc (v := (x4 + 4)) (lv' := [(4, .int (x4 + 4)), (0, .ref b), (1, .ref (tad θ 0)), (2, .ref (tad θ 3)), (3, .ref (tad θ (22 + 5)))]) C.1 C.2.1 dL_law_785 hl (k := 4) rfl rfl (by decide) rfl (fun ls hl => ?_)
        refine lv_goto (tgt := 23) C.1 C.2.1 dL_law_788 (by decide) ?_
        refine W.widen (k := 601024 - n) (n := 7293033 - 6 * n) (law_c0 LX.2.2.2.1) (law_s0 LX.2.2.2.1) ?_
        exact hk23 _ _ _ h _ _ ls (lv_sub hl [1, 2, 3, 4, 0] rfl) hw hS
      · have h := it_f c376 h
        refine lv_iconst (v := 0) C.1 C.2.1 dL_law_379 (by decide) ?_
        exact absurd (Prod.mk.inj (Option.some.inj h)).1 (by decide)
    have h := it_f t5 h
    by_cases t6 : z39 = 6
    · have h := it_t t6 h
      clear ez39
      subst t6
      refine lv_tableIn (off := 342) (tgt := 381) C.1 C.2.1 dL_law_39 (by decide) (by decide) (by decide) (by decide) ?_
      refine lv_aload_n C.1 C.2.1 dL_law_381 rfl (lv_at hl 1 rfl) ?_
      refine lv_aload_n C.1 C.2.1 dL_law_382 rfl (lv_at hl 0 rfl) ?_
      refine lv_iload C.1 C.2.1 dL_law_383 (lv_at hl 4 rfl) ?_
      refine lv_iconst (v := 1) C.1 C.2.1 dL_law_385 (by decide) ?_
      refine lv_iadd C.1 C.2.1 dL_law_386 ?_
      obtain ⟨v387, h387, h⟩ := bind_s h
      refine k_sld C LX.1 LX.2.1 LX.2.2.1 hS h387 dL_law_387 ?_
      refine lv_aload_n C.1 C.2.1 dL_law_388 rfl (lv_at hl 3 rfl) ?_
      obtain ⟨⟨r389, M389⟩, h389, h⟩ := bind_s h
      dsimp only at h
      refine kh_i (As := [.ref (tad θ 0), .int v387, .ref (tad θ (22 + 5))]) C ch_L_value w_404 (c_L_value θ l LX.2.2.2.2.1 N h389) ⟨rfl, rfl, Nat.le_of_ble_eq_true rfl, Nat.le_of_ble_eq_true rfl⟩ rfl hl.1 rfl (Nat.le_of_ble_eq_true rfl) dL_law_389 (law_f LX.2.2.2.1) hw LX.2.2.2.2.2 hS (fun H locs hw hS => ?_)
      refine W.widen (k := 601024 - n) (n := 7293033 - 6 * n) (law_c LX.2.2.2.1) (law_s LX.2.2.2.1) ?_
      refine lv_istore (lv' := [(5, .int r389), (0, .ref b), (1, .ref (tad θ 0)), (2, .ref (tad θ 3)), (3, .ref (tad θ (22 + 5))), (4, .int x4)]) C.1 C.2.1 dL_law_392 hl (by decide) rfl (fun ls hl => ?_)
      refine lv_aload_n C.1 C.2.1 dL_law_394 rfl (lv_at hl 3 rfl) ?_
      refine lv_aload_n C.1 C.2.1 dL_law_395 rfl (lv_at hl 1 rfl) ?_
      refine lv_iload C.1 C.2.1 dL_law_396 (lv_at hl 5 rfl) ?_
      refine lv_iconst (v := 1) C.1 C.2.1 dL_law_398 (by decide) ?_
      refine lv_iadd C.1 C.2.1 dL_law_399 ?_
      obtain ⟨v400, h400, h⟩ := bind_s h
      refine k_sld C LX.1 LX.2.1 LX.2.2.1 hS h400 dL_law_400 ?_
      obtain ⟨⟨r401, M401⟩, h401, h⟩ := bind_s h
      dsimp only at h
      refine k_cl (k_runV (As := [.int v400]) C cf_X3_value cv_X3_value w_674 rc3 (c_X3_value θ l N h401) ⟨rfl, rfl, Nat.le_of_ble_eq_true rfl, Nat.le_of_ble_eq_true rfl⟩ rfl hl.1 rfl (Nat.le_of_ble_eq_true rfl) dL_law_401 ⟨Nat.sub_le _ _, Nat.sub_le _ _⟩ hw) hS (fun H locs hw hS => ?_)
      refine lv_lstore (lv' := [(6, .long r401), (5, .int r389), (0, .ref b), (1, .ref (tad θ 0)), (2, .ref (tad θ 3)), (3, .ref (tad θ (22 + 5))), (4, .int x4)]) C.1 C.2.1 dL_law_404 hl (by decide) rfl (fun ls hl => ?_)
      refine lv_aload_n C.1 C.2.1 dL_law_406 rfl (lv_at hl 4 rfl) ?_
      obtain ⟨⟨r407, M407⟩, h407, h⟩ := bind_s h
      dsimp only at h
      refine k_ci (k_runV (As := []) C cf_X3_thrown cv_X3_thrown w_586 rc3 (c_X3_thrown θ l N h407) ⟨rfl, rfl, Nat.le_of_ble_eq_true rfl, Nat.le_of_ble_eq_true rfl⟩ rfl hl.1 rfl (Nat.le_of_ble_eq_true rfl) dL_law_407 ⟨Nat.sub_le _ _, Nat.sub_le _ _⟩ hw) hS (fun H locs hw hS => ?_)
      refine lv_iload C.1 C.2.1 dL_law_410 (lv_at hl 1 rfl) ?_
      refine lv_icmp_eq (tgt := 417) C.1 C.2.1 dL_law_412 (by decide) (fun c412 => ?_) (fun c412 => ?_)
      · have h := it_t c412 h
        refine lv_iload C.1 C.2.1 dL_law_417 (lv_at hl 1 rfl) ?_
        refine lv_if_ne (tgt := 433) C.1 C.2.1 dL_law_419 (by decide) (fun c419 => ?_) (fun c419 => ?_)
        · have h := it_f c419 h
          refine lv_goto (tgt := 785) C.1 C.2.1 dL_law_433 (by decide) ?_
          refine lv_iinc (v := (x4 + 4)) (lv' := [(4, .int (x4 + 4)), (6, .long r401), (5, .int r389), (0, .ref b), (1, .ref (tad θ 0)), (2, .ref (tad θ 3)), (3, .ref (tad θ (22 + 5)))]) C.1 C.2.1 dL_law_785 hl (k := 6) rfl rfl (by decide) rfl (fun ls hl => ?_)
          refine lv_goto (tgt := 23) C.1 C.2.1 dL_law_788 (by decide) ?_
          exact hk23 _ _ _ h _ _ ls (lv_sub hl [3, 4, 5, 6, 0] rfl) hw hS
        · have h := it_t c419 h
          refine lv_aload_n C.1 C.2.1 dL_law_422 rfl (lv_at hl 5 rfl) ?_
          refine lv_iconst (v := 0) C.1 C.2.1 dL_law_423 (by decide) ?_
          obtain ⟨v424, h424, h⟩ := bind_s h
          refine k_lald C hw 5 h424 dL_law_424 ?_
          refine lv_lload C.1 C.2.1 dL_law_425 (lv_at hl 0 rfl) ?_
          refine W.lcmp C.1 C.2.1 dL_law_427 ?_
          refine lv_if_eq (tgt := 433) C.1 C.2.1 dL_law_428 (by decide) (fun c428 => ?_) (fun c428 => ?_)
          · have h := it_t c428 h
            refine lv_goto (tgt := 785) C.1 C.2.1 dL_law_433 (by decide) ?_
            refine lv_iinc (v := (x4 + 4)) (lv' := [(4, .int (x4 + 4)), (6, .long r401), (5, .int r389), (0, .ref b), (1, .ref (tad θ 0)), (2, .ref (tad θ 3)), (3, .ref (tad θ (22 + 5)))]) C.1 C.2.1 dL_law_785 hl (k := 6) rfl rfl (by decide) rfl (fun ls hl => ?_)
            refine lv_goto (tgt := 23) C.1 C.2.1 dL_law_788 (by decide) ?_
            exact hk23 _ _ _ h _ _ ls (lv_sub hl [3, 4, 5, 6, 0] rfl) hw hS
          · have h := it_f c428 h
            refine lv_iconst (v := 0) C.1 C.2.1 dL_law_431 (by decide) ?_
            exact absurd (Prod.mk.inj (Option.some.inj h)).1 (by decide)
      · have h := it_f c412 h
        refine lv_iconst (v := 0) C.1 C.2.1 dL_law_415 (by decide) ?_
        exact absurd (Prod.mk.inj (Option.some.inj h)).1 (by decide)
    have h := it_f t6 h
    by_cases t7 : z39 = 7
    · have h := it_t t7 h
      clear ez39
      subst t7
      refine lv_tableIn (off := 397) (tgt := 436) C.1 C.2.1 dL_law_39 (by decide) (by decide) (by decide) (by decide) ?_
      refine lv_aload_n C.1 C.2.1 dL_law_436 rfl (lv_at hl 1 rfl) ?_
      refine lv_aload_n C.1 C.2.1 dL_law_437 rfl (lv_at hl 0 rfl) ?_
      refine lv_iload C.1 C.2.1 dL_law_438 (lv_at hl 4 rfl) ?_
      refine lv_iconst (v := 1) C.1 C.2.1 dL_law_440 (by decide) ?_
      refine lv_iadd C.1 C.2.1 dL_law_441 ?_
      obtain ⟨v442, h442, h⟩ := bind_s h
      refine k_sld C LX.1 LX.2.1 LX.2.2.1 hS h442 dL_law_442 ?_
      refine lv_aload_n C.1 C.2.1 dL_law_443 rfl (lv_at hl 0 rfl) ?_
      refine lv_iload C.1 C.2.1 dL_law_444 (lv_at hl 4 rfl) ?_
      refine lv_iconst (v := 2) C.1 C.2.1 dL_law_446 (by decide) ?_
      refine lv_iadd C.1 C.2.1 dL_law_447 ?_
      obtain ⟨v448, h448, h⟩ := bind_s h
      refine k_sld C LX.1 LX.2.1 LX.2.2.1 hS h448 dL_law_448 ?_
      refine lv_aload_n C.1 C.2.1 dL_law_449 rfl (lv_at hl 3 rfl) ?_
      obtain ⟨⟨r450, M450⟩, h450, h⟩ := bind_s h
      dsimp only at h
      refine kh_i (As := [.ref (tad θ 0), .int v442, .int v448, .ref (tad θ (22 + 5))]) C ch_L_point w_452 (c_L_point θ l LX.2.2.2.2.1 N h450) ⟨rfl, rfl, Nat.le_of_ble_eq_true rfl, Nat.le_of_ble_eq_true rfl⟩ rfl hl.1 rfl (Nat.le_of_ble_eq_true rfl) dL_law_450 (law_f LX.2.2.2.1) hw LX.2.2.2.2.2 hS (fun H locs hw hS => ?_)
      refine W.widen (k := 601024 - n) (n := 7293033 - 6 * n) (law_c LX.2.2.2.1) (law_s LX.2.2.2.1) ?_
      refine lv_istore (lv' := [(5, .int r450), (0, .ref b), (1, .ref (tad θ 0)), (2, .ref (tad θ 3)), (3, .ref (tad θ (22 + 5))), (4, .int x4)]) C.1 C.2.1 dL_law_453 hl (by decide) rfl (fun ls hl => ?_)
      refine lv_aload_n C.1 C.2.1 dL_law_455 rfl (lv_at hl 3 rfl) ?_
      refine lv_aload_n C.1 C.2.1 dL_law_456 rfl (lv_at hl 1 rfl) ?_
      refine lv_iload C.1 C.2.1 dL_law_457 (lv_at hl 5 rfl) ?_
      refine lv_iconst (v := 1) C.1 C.2.1 dL_law_459 (by decide) ?_
      refine lv_iadd C.1 C.2.1 dL_law_460 ?_
      obtain ⟨v461, h461, h⟩ := bind_s h
      refine k_sld C LX.1 LX.2.1 LX.2.2.1 hS h461 dL_law_461 ?_
      refine lv_aload_n C.1 C.2.1 dL_law_462 rfl (lv_at hl 1 rfl) ?_
      refine lv_iload C.1 C.2.1 dL_law_463 (lv_at hl 5 rfl) ?_
      refine lv_iconst (v := 2) C.1 C.2.1 dL_law_465 (by decide) ?_
      refine lv_iadd C.1 C.2.1 dL_law_466 ?_
      obtain ⟨v467, h467, h⟩ := bind_s h
      refine k_sld C LX.1 LX.2.1 LX.2.2.1 hS h467 dL_law_467 ?_
      obtain ⟨⟨r468, M468⟩, h468, h⟩ := bind_s h
      dsimp only at h
      refine k_cl (k_runV (As := [.int v461, .int v467]) C cf_X3_point cv_X3_point w_695 rc3 (c_X3_point θ l N h468) ⟨rfl, rfl, Nat.le_of_ble_eq_true rfl, Nat.le_of_ble_eq_true rfl⟩ rfl hl.1 rfl (Nat.le_of_ble_eq_true rfl) dL_law_468 ⟨Nat.sub_le _ _, Nat.sub_le _ _⟩ hw) hS (fun H locs hw hS => ?_)
      refine lv_lstore (lv' := [(6, .long r468), (5, .int r450), (0, .ref b), (1, .ref (tad θ 0)), (2, .ref (tad θ 3)), (3, .ref (tad θ (22 + 5))), (4, .int x4)]) C.1 C.2.1 dL_law_471 hl (by decide) rfl (fun ls hl => ?_)
      refine lv_aload_n C.1 C.2.1 dL_law_473 rfl (lv_at hl 4 rfl) ?_
      obtain ⟨⟨r474, M474⟩, h474, h⟩ := bind_s h
      dsimp only at h
      refine k_ci (k_runV (As := []) C cf_X3_thrown cv_X3_thrown w_586 rc3 (c_X3_thrown θ l N h474) ⟨rfl, rfl, Nat.le_of_ble_eq_true rfl, Nat.le_of_ble_eq_true rfl⟩ rfl hl.1 rfl (Nat.le_of_ble_eq_true rfl) dL_law_474 ⟨Nat.sub_le _ _, Nat.sub_le _ _⟩ hw) hS (fun H locs hw hS => ?_)
      refine lv_iload C.1 C.2.1 dL_law_477 (lv_at hl 1 rfl) ?_
      refine lv_icmp_eq (tgt := 484) C.1 C.2.1 dL_law_479 (by decide) (fun c479 => ?_) (fun c479 => ?_)
      · have h := it_t c479 h
        refine lv_iload C.1 C.2.1 dL_law_484 (lv_at hl 1 rfl) ?_
        refine lv_if_ne (tgt := 500) C.1 C.2.1 dL_law_486 (by decide) (fun c486 => ?_) (fun c486 => ?_)
        · have h := it_f c486 h
          refine lv_goto (tgt := 785) C.1 C.2.1 dL_law_500 (by decide) ?_
          refine lv_iinc (v := (x4 + 4)) (lv' := [(4, .int (x4 + 4)), (6, .long r468), (5, .int r450), (0, .ref b), (1, .ref (tad θ 0)), (2, .ref (tad θ 3)), (3, .ref (tad θ (22 + 5)))]) C.1 C.2.1 dL_law_785 hl (k := 6) rfl rfl (by decide) rfl (fun ls hl => ?_)
          refine lv_goto (tgt := 23) C.1 C.2.1 dL_law_788 (by decide) ?_
          exact hk23 _ _ _ h _ _ ls (lv_sub hl [3, 4, 5, 6, 0] rfl) hw hS
        · have h := it_t c486 h
          refine lv_aload_n C.1 C.2.1 dL_law_489 rfl (lv_at hl 5 rfl) ?_
          refine lv_iconst (v := 0) C.1 C.2.1 dL_law_490 (by decide) ?_
          obtain ⟨v491, h491, h⟩ := bind_s h
          refine k_lald C hw 5 h491 dL_law_491 ?_
          refine lv_lload C.1 C.2.1 dL_law_492 (lv_at hl 0 rfl) ?_
          refine W.lcmp C.1 C.2.1 dL_law_494 ?_
          refine lv_if_eq (tgt := 500) C.1 C.2.1 dL_law_495 (by decide) (fun c495 => ?_) (fun c495 => ?_)
          · have h := it_t c495 h
            refine lv_goto (tgt := 785) C.1 C.2.1 dL_law_500 (by decide) ?_
            refine lv_iinc (v := (x4 + 4)) (lv' := [(4, .int (x4 + 4)), (6, .long r468), (5, .int r450), (0, .ref b), (1, .ref (tad θ 0)), (2, .ref (tad θ 3)), (3, .ref (tad θ (22 + 5)))]) C.1 C.2.1 dL_law_785 hl (k := 6) rfl rfl (by decide) rfl (fun ls hl => ?_)
            refine lv_goto (tgt := 23) C.1 C.2.1 dL_law_788 (by decide) ?_
            exact hk23 _ _ _ h _ _ ls (lv_sub hl [3, 4, 5, 6, 0] rfl) hw hS
          · have h := it_f c495 h
            refine lv_iconst (v := 0) C.1 C.2.1 dL_law_498 (by decide) ?_
            exact absurd (Prod.mk.inj (Option.some.inj h)).1 (by decide)
      · have h := it_f c479 h
        refine lv_iconst (v := 0) C.1 C.2.1 dL_law_482 (by decide) ?_
        exact absurd (Prod.mk.inj (Option.some.inj h)).1 (by decide)
    have h := it_f t7 h
    by_cases t8 : z39 = 8
    · have h := it_t t8 h
      clear ez39
      subst t8
      refine lv_tableIn (off := 464) (tgt := 503) C.1 C.2.1 dL_law_39 (by decide) (by decide) (by decide) (by decide) ?_
      refine lv_aload_n C.1 C.2.1 dL_law_503 rfl (lv_at hl 1 rfl) ?_
      refine lv_aload_n C.1 C.2.1 dL_law_504 rfl (lv_at hl 0 rfl) ?_
      refine lv_iload C.1 C.2.1 dL_law_505 (lv_at hl 4 rfl) ?_
      refine lv_iconst (v := 1) C.1 C.2.1 dL_law_507 (by decide) ?_
      refine lv_iadd C.1 C.2.1 dL_law_508 ?_
      obtain ⟨v509, h509, h⟩ := bind_s h
      refine k_sld C LX.1 LX.2.1 LX.2.2.1 hS h509 dL_law_509 ?_
      refine lv_aload_n C.1 C.2.1 dL_law_510 rfl (lv_at hl 0 rfl) ?_
      refine lv_iload C.1 C.2.1 dL_law_511 (lv_at hl 4 rfl) ?_
      refine lv_iconst (v := 2) C.1 C.2.1 dL_law_513 (by decide) ?_
      refine lv_iadd C.1 C.2.1 dL_law_514 ?_
      obtain ⟨v515, h515, h⟩ := bind_s h
      refine k_sld C LX.1 LX.2.1 LX.2.2.1 hS h515 dL_law_515 ?_
      refine lv_if_eq (tgt := 523) C.1 C.2.1 dL_law_516 (by decide) (fun c516 => ?_) (fun c516 => ?_)
      · have h := it_t c516 h
        refine lv_iconst (v := 0) C.1 C.2.1 dL_law_523 (by decide) ?_
        exact t_L_law_524 C LX N hk23 _ _ _ _ _ h _ _ ls (lv_sub hl [0, 1, 2, 3, 4] rfl) hw hS
      · have h := it_f c516 h
        refine lv_iconst (v := 1) C.1 C.2.1 dL_law_519 (by decide) ?_
        refine lv_goto (tgt := 524) C.1 C.2.1 dL_law_520 (by decide) ?_
        exact t_L_law_524 C LX N hk23 _ _ _ _ _ h _ _ ls (lv_sub hl [0, 1, 2, 3, 4] rfl) hw hS
    have h := it_f t8 h
    by_cases t9 : z39 = 9
    · have h := it_t t9 h
      clear ez39
      subst t9
      refine lv_tableIn (off := 559) (tgt := 598) C.1 C.2.1 dL_law_39 (by decide) (by decide) (by decide) (by decide) ?_
      refine lv_aload_n C.1 C.2.1 dL_law_598 rfl (lv_at hl 1 rfl) ?_
      refine lv_aload_n C.1 C.2.1 dL_law_599 rfl (lv_at hl 0 rfl) ?_
      refine lv_iload C.1 C.2.1 dL_law_600 (lv_at hl 4 rfl) ?_
      refine lv_iconst (v := 1) C.1 C.2.1 dL_law_602 (by decide) ?_
      refine lv_iadd C.1 C.2.1 dL_law_603 ?_
      obtain ⟨v604, h604, h⟩ := bind_s h
      refine k_sld C LX.1 LX.2.1 LX.2.2.1 hS h604 dL_law_604 ?_
      refine lv_aload_n C.1 C.2.1 dL_law_605 rfl (lv_at hl 3 rfl) ?_
      obtain ⟨⟨r606, M606⟩, h606, h⟩ := bind_s h
      dsimp only at h
      refine kh_i (As := [.ref (tad θ 0), .int v604, .ref (tad θ (22 + 5))]) C ch_L_tight w_493 (c_L_tight θ l LX.2.2.2.2.1 N h606) ⟨rfl, rfl, Nat.le_of_ble_eq_true rfl, Nat.le_of_ble_eq_true rfl⟩ rfl hl.1 rfl (Nat.le_of_ble_eq_true rfl) dL_law_606 (law_f LX.2.2.2.1) hw LX.2.2.2.2.2 hS (fun H locs hw hS => ?_)
      refine W.widen (k := 601024 - n) (n := 7293033 - 6 * n) (law_c LX.2.2.2.1) (law_s LX.2.2.2.1) ?_
      refine lv_istore (lv' := [(5, .int r606), (0, .ref b), (1, .ref (tad θ 0)), (2, .ref (tad θ 3)), (3, .ref (tad θ (22 + 5))), (4, .int x4)]) C.1 C.2.1 dL_law_609 hl (by decide) rfl (fun ls hl => ?_)
      refine lv_aload_n C.1 C.2.1 dL_law_611 rfl (lv_at hl 3 rfl) ?_
      refine lv_aload_n C.1 C.2.1 dL_law_612 rfl (lv_at hl 1 rfl) ?_
      refine lv_iload C.1 C.2.1 dL_law_613 (lv_at hl 5 rfl) ?_
      refine lv_iconst (v := 1) C.1 C.2.1 dL_law_615 (by decide) ?_
      refine lv_iadd C.1 C.2.1 dL_law_616 ?_
      obtain ⟨v617, h617, h⟩ := bind_s h
      refine k_sld C LX.1 LX.2.1 LX.2.2.1 hS h617 dL_law_617 ?_
      obtain ⟨⟨r618, M618⟩, h618, h⟩ := bind_s h
      dsimp only at h
      refine k_ci (k_runV (As := [.int v617]) C cf_X3_tight cv_X3_tight w_707 rc3 (c_X3_tight θ l N h618) ⟨rfl, rfl, Nat.le_of_ble_eq_true rfl, Nat.le_of_ble_eq_true rfl⟩ rfl hl.1 rfl (Nat.le_of_ble_eq_true rfl) dL_law_618 ⟨Nat.sub_le _ _, Nat.sub_le _ _⟩ hw) hS (fun H locs hw hS => ?_)
      refine lv_istore (lv' := [(6, .int r618), (5, .int r606), (0, .ref b), (1, .ref (tad θ 0)), (2, .ref (tad θ 3)), (3, .ref (tad θ (22 + 5))), (4, .int x4)]) C.1 C.2.1 dL_law_621 hl (by decide) rfl (fun ls hl => ?_)
      refine lv_aload_n C.1 C.2.1 dL_law_623 rfl (lv_at hl 4 rfl) ?_
      obtain ⟨⟨r624, M624⟩, h624, h⟩ := bind_s h
      dsimp only at h
      refine k_ci (k_runV (As := []) C cf_X3_thrown cv_X3_thrown w_586 rc3 (c_X3_thrown θ l N h624) ⟨rfl, rfl, Nat.le_of_ble_eq_true rfl, Nat.le_of_ble_eq_true rfl⟩ rfl hl.1 rfl (Nat.le_of_ble_eq_true rfl) dL_law_624 ⟨Nat.sub_le _ _, Nat.sub_le _ _⟩ hw) hS (fun H locs hw hS => ?_)
      refine lv_iload C.1 C.2.1 dL_law_627 (lv_at hl 1 rfl) ?_
      refine lv_icmp_eq (tgt := 634) C.1 C.2.1 dL_law_629 (by decide) (fun c629 => ?_) (fun c629 => ?_)
      · have h := it_t c629 h
        refine lv_iload C.1 C.2.1 dL_law_634 (lv_at hl 1 rfl) ?_
        refine lv_if_ne (tgt := 658) C.1 C.2.1 dL_law_636 (by decide) (fun c636 => ?_) (fun c636 => ?_)
        · have h := it_f c636 h
          refine lv_goto (tgt := 785) C.1 C.2.1 dL_law_658 (by decide) ?_
          refine lv_iinc (v := (x4 + 4)) (lv' := [(4, .int (x4 + 4)), (6, .int r618), (5, .int r606), (0, .ref b), (1, .ref (tad θ 0)), (2, .ref (tad θ 3)), (3, .ref (tad θ (22 + 5)))]) C.1 C.2.1 dL_law_785 hl (k := 6) rfl rfl (by decide) rfl (fun ls hl => ?_)
          refine lv_goto (tgt := 23) C.1 C.2.1 dL_law_788 (by decide) ?_
          exact hk23 _ _ _ h _ _ ls (lv_sub hl [3, 4, 5, 6, 0] rfl) hw hS
        · have h := it_t c636 h
          refine lv_aload_n C.1 C.2.1 dL_law_639 rfl (lv_at hl 5 rfl) ?_
          refine lv_iconst (v := 0) C.1 C.2.1 dL_law_640 (by decide) ?_
          obtain ⟨v641, h641, h⟩ := bind_s h
          refine k_lald C hw 5 h641 dL_law_641 ?_
          refine lv_iload C.1 C.2.1 dL_law_642 (lv_at hl 0 rfl) ?_
          refine lv_if_eq (tgt := 651) C.1 C.2.1 dL_law_644 (by decide) (fun c644 => ?_) (fun c644 => ?_)
          · have h := it_t c644 h
            refine lv_lconst (v := 0) C.1 C.2.1 dL_law_651 (by decide) ?_
            exact t_L_law_652 C LX N hk23 _ _ _ _ _ h _ _ ls (lv_sub hl [2, 3, 4, 5, 6] rfl) hw hS
          · have h := it_f c644 h
            refine lv_lconst (v := 1) C.1 C.2.1 dL_law_647 (by decide) ?_
            refine lv_goto (tgt := 652) C.1 C.2.1 dL_law_648 (by decide) ?_
            exact t_L_law_652 C LX N hk23 _ _ _ _ _ h _ _ ls (lv_sub hl [2, 3, 4, 5, 6] rfl) hw hS
      · have h := it_f c629 h
        refine lv_iconst (v := 0) C.1 C.2.1 dL_law_632 (by decide) ?_
        exact absurd (Prod.mk.inj (Option.some.inj h)).1 (by decide)
    have h := it_f t9 h
    by_cases t10 : z39 = 10
    · have h := it_t t10 h
      clear ez39
      subst t10
      refine lv_tableIn (off := 622) (tgt := 661) C.1 C.2.1 dL_law_39 (by decide) (by decide) (by decide) (by decide) ?_
      refine lv_aload_n C.1 C.2.1 dL_law_661 rfl (lv_at hl 1 rfl) ?_
      refine lv_aload_n C.1 C.2.1 dL_law_662 rfl (lv_at hl 3 rfl) ?_
      obtain ⟨⟨r663, M663⟩, h663, h⟩ := bind_s h
      dsimp only at h
      refine kh_i (As := [.ref (tad θ 0), .ref (tad θ (22 + 5))]) C ch_L_conflict w_505 (c_L_conflict θ l LX.2.2.2.2.1 N h663) ⟨rfl, rfl, Nat.le_of_ble_eq_true rfl, Nat.le_of_ble_eq_true rfl⟩ rfl hl.1 rfl (Nat.le_of_ble_eq_true rfl) dL_law_663 (law_f LX.2.2.2.1) hw LX.2.2.2.2.2 hS (fun H locs hw hS => ?_)
      refine W.widen (k := 601024 - n) (n := 7293033 - 6 * n) (law_c LX.2.2.2.1) (law_s LX.2.2.2.1) ?_
      refine lv_istore (lv' := [(5, .int r663), (0, .ref b), (1, .ref (tad θ 0)), (2, .ref (tad θ 3)), (3, .ref (tad θ (22 + 5))), (4, .int x4)]) C.1 C.2.1 dL_law_666 hl (by decide) rfl (fun ls hl => ?_)
      refine lv_aload_n C.1 C.2.1 dL_law_668 rfl (lv_at hl 3 rfl) ?_
      obtain ⟨⟨r669, M669⟩, h669, h⟩ := bind_s h
      dsimp only at h
      refine k_ci (k_runV (As := []) C cf_X3_conflict cv_X3_conflict w_715 rc3 (c_X3_conflict θ l N h669) ⟨rfl, rfl, Nat.le_of_ble_eq_true rfl, Nat.le_of_ble_eq_true rfl⟩ rfl hl.1 rfl (Nat.le_of_ble_eq_true rfl) dL_law_669 ⟨Nat.sub_le _ _, Nat.sub_le _ _⟩ hw) hS (fun H locs hw hS => ?_)
      refine lv_istore (lv' := [(6, .int r669), (5, .int r663), (0, .ref b), (1, .ref (tad θ 0)), (2, .ref (tad θ 3)), (3, .ref (tad θ (22 + 5))), (4, .int x4)]) C.1 C.2.1 dL_law_672 hl (by decide) rfl (fun ls hl => ?_)
      refine lv_aload_n C.1 C.2.1 dL_law_674 rfl (lv_at hl 4 rfl) ?_
      obtain ⟨⟨r675, M675⟩, h675, h⟩ := bind_s h
      dsimp only at h
      refine k_ci (k_runV (As := []) C cf_X3_thrown cv_X3_thrown w_586 rc3 (c_X3_thrown θ l N h675) ⟨rfl, rfl, Nat.le_of_ble_eq_true rfl, Nat.le_of_ble_eq_true rfl⟩ rfl hl.1 rfl (Nat.le_of_ble_eq_true rfl) dL_law_675 ⟨Nat.sub_le _ _, Nat.sub_le _ _⟩ hw) hS (fun H locs hw hS => ?_)
      refine lv_iload C.1 C.2.1 dL_law_678 (lv_at hl 1 rfl) ?_
      refine lv_icmp_eq (tgt := 685) C.1 C.2.1 dL_law_680 (by decide) (fun c680 => ?_) (fun c680 => ?_)
      · have h := it_t c680 h
        refine lv_iload C.1 C.2.1 dL_law_685 (lv_at hl 1 rfl) ?_
        refine lv_if_ne (tgt := 702) C.1 C.2.1 dL_law_687 (by decide) (fun c687 => ?_) (fun c687 => ?_)
        · have h := it_f c687 h
          refine lv_goto (tgt := 785) C.1 C.2.1 dL_law_702 (by decide) ?_
          refine lv_iinc (v := (x4 + 4)) (lv' := [(4, .int (x4 + 4)), (6, .int r669), (5, .int r663), (0, .ref b), (1, .ref (tad θ 0)), (2, .ref (tad θ 3)), (3, .ref (tad θ (22 + 5)))]) C.1 C.2.1 dL_law_785 hl (k := 6) rfl rfl (by decide) rfl (fun ls hl => ?_)
          refine lv_goto (tgt := 23) C.1 C.2.1 dL_law_788 (by decide) ?_
          exact hk23 _ _ _ h _ _ ls (lv_sub hl [3, 4, 5, 6, 0] rfl) hw hS
        · have h := it_t c687 h
          refine lv_aload_n C.1 C.2.1 dL_law_690 rfl (lv_at hl 5 rfl) ?_
          refine lv_iconst (v := 0) C.1 C.2.1 dL_law_691 (by decide) ?_
          obtain ⟨v692, h692, h⟩ := bind_s h
          refine k_lald C hw 5 h692 dL_law_692 ?_
          refine lv_iload C.1 C.2.1 dL_law_693 (lv_at hl 0 rfl) ?_
          refine lv_i2l (v := (Int32.toInt64 r669)) C.1 C.2.1 dL_law_695 rfl ?_
          refine W.lcmp C.1 C.2.1 dL_law_696 ?_
          refine lv_if_eq (tgt := 702) C.1 C.2.1 dL_law_697 (by decide) (fun c697 => ?_) (fun c697 => ?_)
          · have h := it_t c697 h
            refine lv_goto (tgt := 785) C.1 C.2.1 dL_law_702 (by decide) ?_
            refine lv_iinc (v := (x4 + 4)) (lv' := [(4, .int (x4 + 4)), (6, .int r669), (5, .int r663), (0, .ref b), (1, .ref (tad θ 0)), (2, .ref (tad θ 3)), (3, .ref (tad θ (22 + 5)))]) C.1 C.2.1 dL_law_785 hl (k := 6) rfl rfl (by decide) rfl (fun ls hl => ?_)
            refine lv_goto (tgt := 23) C.1 C.2.1 dL_law_788 (by decide) ?_
            exact hk23 _ _ _ h _ _ ls (lv_sub hl [3, 4, 5, 6, 0] rfl) hw hS
          · have h := it_f c697 h
            refine lv_iconst (v := 0) C.1 C.2.1 dL_law_700 (by decide) ?_
            exact absurd (Prod.mk.inj (Option.some.inj h)).1 (by decide)
      · have h := it_f c680 h
        refine lv_iconst (v := 0) C.1 C.2.1 dL_law_683 (by decide) ?_
        exact absurd (Prod.mk.inj (Option.some.inj h)).1 (by decide)
    have h := it_f t10 h
    by_cases t11 : z39 = 11
    · have h := it_t t11 h
      clear ez39
      subst t11
      refine lv_tableIn (off := 666) (tgt := 705) C.1 C.2.1 dL_law_39 (by decide) (by decide) (by decide) (by decide) ?_
      refine lv_aload_n C.1 C.2.1 dL_law_705 rfl (lv_at hl 1 rfl) ?_
      obtain ⟨⟨r706, M706⟩, h706, h⟩ := bind_s h
      dsimp only at h
      refine k_ci (k_runV (As := []) C cf_X2_corners cv_X2_corners w_215 rc0 (c_X2_corners θ l N h706) ⟨rfl, rfl, Nat.le_of_ble_eq_true rfl, Nat.le_of_ble_eq_true rfl⟩ rfl hl.1 rfl (Nat.le_of_ble_eq_true rfl) dL_law_706 ⟨Nat.sub_le _ _, Nat.sub_le _ _⟩ hw) hS (fun H locs hw hS => ?_)
      refine lv_aload_n C.1 C.2.1 dL_law_709 rfl (lv_at hl 2 rfl) ?_
      obtain ⟨⟨r710, M710⟩, h710, h⟩ := bind_s h
      dsimp only at h
      refine k_ci (k_runV (As := []) C cf_X3_corners cv_X3_corners w_719 rc3 (c_X3_corners θ l N h710) ⟨rfl, rfl, Nat.le_of_ble_eq_true rfl, Nat.le_of_ble_eq_true rfl⟩ rfl hl.1 rfl (Nat.le_of_ble_eq_true rfl) dL_law_710 ⟨Nat.sub_le _ _, Nat.sub_le _ _⟩ hw) hS (fun H locs hw hS => ?_)
      refine lv_icmp_eq (tgt := 785) C.1 C.2.1 dL_law_713 (by decide) (fun c713 => ?_) (fun c713 => ?_)
      · have h := it_t c713 h
        refine lv_iinc (v := (x4 + 4)) (lv' := [(4, .int (x4 + 4)), (0, .ref b), (1, .ref (tad θ 0)), (2, .ref (tad θ 3)), (3, .ref (tad θ (22 + 5)))]) C.1 C.2.1 dL_law_785 hl (k := 4) rfl rfl (by decide) rfl (fun ls hl => ?_)
        refine lv_goto (tgt := 23) C.1 C.2.1 dL_law_788 (by decide) ?_
        refine W.widen (k := 601024 - n) (n := 7293033 - 6 * n) (law_c0 LX.2.2.2.1) (law_s0 LX.2.2.2.1) ?_
        exact hk23 _ _ _ h _ _ ls (lv_sub hl [1, 2, 3, 4, 0] rfl) hw hS
      · have h := it_f c713 h
        refine lv_iconst (v := 0) C.1 C.2.1 dL_law_716 (by decide) ?_
        exact absurd (Prod.mk.inj (Option.some.inj h)).1 (by decide)
    have h := it_f t11 h
    by_cases t12 : z39 = 12
    · have h := it_t t12 h
      clear ez39
      subst t12
      refine lv_tableIn (off := 679) (tgt := 718) C.1 C.2.1 dL_law_39 (by decide) (by decide) (by decide) (by decide) ?_
      refine lv_aload_n C.1 C.2.1 dL_law_718 rfl (lv_at hl 1 rfl) ?_
      refine lv_aload_n C.1 C.2.1 dL_law_719 rfl (lv_at hl 0 rfl) ?_
      refine lv_iload C.1 C.2.1 dL_law_720 (lv_at hl 4 rfl) ?_
      refine lv_iconst (v := 1) C.1 C.2.1 dL_law_722 (by decide) ?_
      refine lv_iadd C.1 C.2.1 dL_law_723 ?_
      obtain ⟨v724, h724, h⟩ := bind_s h
      refine k_sld C LX.1 LX.2.1 LX.2.2.1 hS h724 dL_law_724 ?_
      refine lv_aload_n C.1 C.2.1 dL_law_725 rfl (lv_at hl 0 rfl) ?_
      refine lv_iload C.1 C.2.1 dL_law_726 (lv_at hl 4 rfl) ?_
      refine lv_iconst (v := 2) C.1 C.2.1 dL_law_728 (by decide) ?_
      refine lv_iadd C.1 C.2.1 dL_law_729 ?_
      obtain ⟨v730, h730, h⟩ := bind_s h
      refine k_sld C LX.1 LX.2.1 LX.2.2.1 hS h730 dL_law_730 ?_
      refine lv_aload_n C.1 C.2.1 dL_law_731 rfl (lv_at hl 3 rfl) ?_
      obtain ⟨⟨r732, M732⟩, h732, h⟩ := bind_s h
      dsimp only at h
      refine kh_i (As := [.ref (tad θ 0), .int v724, .int v730, .ref (tad θ (22 + 5))]) C ch_L_corner w_512 (c_L_corner θ l LX.2.2.2.2.1 N h732) ⟨rfl, rfl, Nat.le_of_ble_eq_true rfl, Nat.le_of_ble_eq_true rfl⟩ rfl hl.1 rfl (Nat.le_of_ble_eq_true rfl) dL_law_732 (law_f LX.2.2.2.1) hw LX.2.2.2.2.2 hS (fun H locs hw hS => ?_)
      refine W.widen (k := 601024 - n) (n := 7293033 - 6 * n) (law_c LX.2.2.2.1) (law_s LX.2.2.2.1) ?_
      refine lv_istore (lv' := [(5, .int r732), (0, .ref b), (1, .ref (tad θ 0)), (2, .ref (tad θ 3)), (3, .ref (tad θ (22 + 5))), (4, .int x4)]) C.1 C.2.1 dL_law_735 hl (by decide) rfl (fun ls hl => ?_)
      refine lv_aload_n C.1 C.2.1 dL_law_737 rfl (lv_at hl 3 rfl) ?_
      refine lv_aload_n C.1 C.2.1 dL_law_738 rfl (lv_at hl 1 rfl) ?_
      refine lv_iload C.1 C.2.1 dL_law_739 (lv_at hl 5 rfl) ?_
      refine lv_iconst (v := 1) C.1 C.2.1 dL_law_741 (by decide) ?_
      refine lv_iadd C.1 C.2.1 dL_law_742 ?_
      obtain ⟨v743, h743, h⟩ := bind_s h
      refine k_sld C LX.1 LX.2.1 LX.2.2.1 hS h743 dL_law_743 ?_
      refine lv_aload_n C.1 C.2.1 dL_law_744 rfl (lv_at hl 1 rfl) ?_
      refine lv_iload C.1 C.2.1 dL_law_745 (lv_at hl 5 rfl) ?_
      refine lv_iconst (v := 2) C.1 C.2.1 dL_law_747 (by decide) ?_
      refine lv_iadd C.1 C.2.1 dL_law_748 ?_
      obtain ⟨v749, h749, h⟩ := bind_s h
      refine k_sld C LX.1 LX.2.1 LX.2.2.1 hS h749 dL_law_749 ?_
      obtain ⟨⟨r750, M750⟩, h750, h⟩ := bind_s h
      dsimp only at h
      refine k_cl (k_runV (As := [.int v743, .int v749]) C cf_X3_corner cv_X3_corner w_735 rc3 (c_X3_corner θ l N h750) ⟨rfl, rfl, Nat.le_of_ble_eq_true rfl, Nat.le_of_ble_eq_true rfl⟩ rfl hl.1 rfl (Nat.le_of_ble_eq_true rfl) dL_law_750 ⟨Nat.sub_le _ _, Nat.sub_le _ _⟩ hw) hS (fun H locs hw hS => ?_)
      refine lv_lstore (lv' := [(6, .long r750), (5, .int r732), (0, .ref b), (1, .ref (tad θ 0)), (2, .ref (tad θ 3)), (3, .ref (tad θ (22 + 5))), (4, .int x4)]) C.1 C.2.1 dL_law_753 hl (by decide) rfl (fun ls hl => ?_)
      refine lv_aload_n C.1 C.2.1 dL_law_755 rfl (lv_at hl 4 rfl) ?_
      obtain ⟨⟨r756, M756⟩, h756, h⟩ := bind_s h
      dsimp only at h
      refine k_ci (k_runV (As := []) C cf_X3_thrown cv_X3_thrown w_586 rc3 (c_X3_thrown θ l N h756) ⟨rfl, rfl, Nat.le_of_ble_eq_true rfl, Nat.le_of_ble_eq_true rfl⟩ rfl hl.1 rfl (Nat.le_of_ble_eq_true rfl) dL_law_756 ⟨Nat.sub_le _ _, Nat.sub_le _ _⟩ hw) hS (fun H locs hw hS => ?_)
      refine lv_iload C.1 C.2.1 dL_law_759 (lv_at hl 1 rfl) ?_
      refine lv_icmp_eq (tgt := 766) C.1 C.2.1 dL_law_761 (by decide) (fun c761 => ?_) (fun c761 => ?_)
      · have h := it_t c761 h
        refine lv_iload C.1 C.2.1 dL_law_766 (lv_at hl 1 rfl) ?_
        refine lv_if_ne (tgt := 782) C.1 C.2.1 dL_law_768 (by decide) (fun c768 => ?_) (fun c768 => ?_)
        · have h := it_f c768 h
          refine lv_goto (tgt := 785) C.1 C.2.1 dL_law_782 (by decide) ?_
          refine lv_iinc (v := (x4 + 4)) (lv' := [(4, .int (x4 + 4)), (6, .long r750), (5, .int r732), (0, .ref b), (1, .ref (tad θ 0)), (2, .ref (tad θ 3)), (3, .ref (tad θ (22 + 5)))]) C.1 C.2.1 dL_law_785 hl (k := 6) rfl rfl (by decide) rfl (fun ls hl => ?_)
          refine lv_goto (tgt := 23) C.1 C.2.1 dL_law_788 (by decide) ?_
          exact hk23 _ _ _ h _ _ ls (lv_sub hl [3, 4, 5, 6, 0] rfl) hw hS
        · have h := it_t c768 h
          refine lv_aload_n C.1 C.2.1 dL_law_771 rfl (lv_at hl 5 rfl) ?_
          refine lv_iconst (v := 0) C.1 C.2.1 dL_law_772 (by decide) ?_
          obtain ⟨v773, h773, h⟩ := bind_s h
          refine k_lald C hw 5 h773 dL_law_773 ?_
          refine lv_lload C.1 C.2.1 dL_law_774 (lv_at hl 0 rfl) ?_
          refine W.lcmp C.1 C.2.1 dL_law_776 ?_
          refine lv_if_eq (tgt := 782) C.1 C.2.1 dL_law_777 (by decide) (fun c777 => ?_) (fun c777 => ?_)
          · have h := it_t c777 h
            refine lv_goto (tgt := 785) C.1 C.2.1 dL_law_782 (by decide) ?_
            refine lv_iinc (v := (x4 + 4)) (lv' := [(4, .int (x4 + 4)), (6, .long r750), (5, .int r732), (0, .ref b), (1, .ref (tad θ 0)), (2, .ref (tad θ 3)), (3, .ref (tad θ (22 + 5)))]) C.1 C.2.1 dL_law_785 hl (k := 6) rfl rfl (by decide) rfl (fun ls hl => ?_)
            refine lv_goto (tgt := 23) C.1 C.2.1 dL_law_788 (by decide) ?_
            exact hk23 _ _ _ h _ _ ls (lv_sub hl [3, 4, 5, 6, 0] rfl) hw hS
          · have h := it_f c777 h
            refine lv_iconst (v := 0) C.1 C.2.1 dL_law_780 (by decide) ?_
            exact absurd (Prod.mk.inj (Option.some.inj h)).1 (by decide)
      · have h := it_f c761 h
        refine lv_iconst (v := 0) C.1 C.2.1 dL_law_764 (by decide) ?_
        exact absurd (Prod.mk.inj (Option.some.inj h)).1 (by decide)
    have h := it_f t12 h
    refine lv_tableOut (tgt := 785) C.1 C.2.1 dL_law_39 (sw_out ⟨t0, t1, t2, t3, t4, t5, t6, t7, t8, t9, t10, t11, t12⟩) (by decide) ?_
    refine lv_iinc (v := (x4 + 4)) (lv' := [(4, .int (x4 + 4)), (0, .ref b), (1, .ref (tad θ 0)), (2, .ref (tad θ 3)), (3, .ref (tad θ (22 + 5)))]) C.1 C.2.1 dL_law_785 hl (k := 4) rfl rfl (by decide) rfl (fun ls hl => ?_)
    refine lv_goto (tgt := 23) C.1 C.2.1 dL_law_788 (by decide) ?_
    refine W.widen (k := 601024 - n) (n := 7293033 - 6 * n) (law_c0 LX.2.2.2.1) (law_s0 LX.2.2.2.1) ?_
    exact hk23 _ _ _ h _ _ ls (lv_sub hl [1, 2, 3, 4, 0] rfl) hw hS
