abbrev rm_X2_hasRow : Room := { frames := 0, cells := 0, slots := 0, locals := 0 }
def J_X2_hasRow_0 (θ : Th) (p : Program) (l : Launch) (e : Env) (s : State) (m : MethodId) (args : Array Value) (below : List Frame) (meth : Method) (c : Code) (g : Int32 → Mm → Option (Int32 × Mm)) : Prop := ∀ (x1 : Int32) (M : Mm) (r : Int32) (M1 : Mm), g x1 M = some (r, M1) → ∀ (H : Heap) (locs : List Loc) (ls : Array Slot), lv_has ls 2 [(0, .ref (tad θ 0)), (1, .int x1)] → wd θ M H → va_S (tA θ) s.heap H locs → W p l e rm_X2_hasRow s m args below meth c H locs 0 0 (MQ below (qI θ r M1) args s 0 0 (tA θ)) (F0 m 0 ls [])
def b_X2_hasRow_0 (N : Nat) (x1 : Int32) (M : Mm) : Option (Int32 × Mm) :=
  (if x1 < 0 then some (0, M) else (if (M.1 1) ≤ x1 then some (0, M) else some (1, M)))
set_option maxRecDepth 100000 in
set_option maxHeartbeats 4000000 in
theorem t_X2_hasRow_0 {θ : Th} {p : Program} {l : Launch} {e : Env} {s : State} {m : MethodId} {args : Array Value} {below : List Frame} {meth : Method} {c : Code} (C : Cx θ p s m args meth c cX2_hasRow 2 RX2 (some .boolean)) (N : Nat) : J_X2_hasRow_0 θ p l e s m args below meth c (b_X2_hasRow_0 N) := by
  intro x1 M r M1 h H locs ls hl hw hS
  unfold b_X2_hasRow_0 at h
  refine lv_iload_n C.1 C.2.1 dX2_hasRow_0 rfl (lv_at hl 1 rfl) ?_
  refine lv_if_lt (tgt := 19) C.1 C.2.1 dX2_hasRow_1 (by decide) (fun c1 => ?_) (fun c1 => ?_)
  · have h := it_t c1 h
    refine lv_iconst (v := 0) C.1 C.2.1 dX2_hasRow_19 (by decide) ?_
    cases h
    exact k_retz C hw hS (Or.inl rfl) dX2_hasRow_20
  · have h := it_f c1 h
    refine lv_iload_n C.1 C.2.1 dX2_hasRow_4 rfl (lv_at hl 1 rfl) ?_
    refine lv_aload_n C.1 C.2.1 dX2_hasRow_5 rfl (lv_at hl 0 rfl) ?_
    refine gf_X2_sheet C hw w_129 dX2_hasRow_6 ?_
    refine gf_X1_rows C hw w_78 dX2_hasRow_9 ?_
    refine lv_icmp_ge (tgt := 19) C.1 C.2.1 dX2_hasRow_12 (by decide) (fun c12 => ?_) (fun c12 => ?_)
    · have h := it_t c12 h
      refine lv_iconst (v := 0) C.1 C.2.1 dX2_hasRow_19 (by decide) ?_
      cases h
      exact k_retz C hw hS (Or.inl rfl) dX2_hasRow_20
    · have h := it_f c12 h
      refine lv_iconst (v := 1) C.1 C.2.1 dX2_hasRow_15 (by decide) ?_
      refine lv_goto (tgt := 20) C.1 C.2.1 dX2_hasRow_16 (by decide) ?_
      cases h
      exact k_retz C hw hS (Or.inr rfl) dX2_hasRow_20
def f_X2_hasRow (N : Nat) (x1 : Int32) (M : Mm) : Option (Int32 × Mm) := b_X2_hasRow_0 N x1 M
set_option maxRecDepth 100000 in
theorem c_X2_hasRow (θ : Th) (l : Launch) (N : Nat) {x1 : Int32} {M : Mm} {r : Int32} {M1 : Mm} (h : f_X2_hasRow N x1 M = some (r, M1)) : Met l yX2_hasRow (gws yX2_hasRow cX2_hasRow 2 (some .boolean)) rm_X2_hasRow (va_Pc [.ref (tad θ 0), .int x1] (wU θ M)) (qI θ r M1) 0 0 (tA θ) :=
  k_met (by decide +kernel) (Nat.le_of_ble_eq_true rfl) (fun p e s m args below meth c C ls hl hw => t_X2_hasRow_0 C N _ _ _ _ h _ _ ls (lv_sub hl [0, 1] rfl) hw va_S.rf)
abbrev rm_X2_hasVariable : Room := { frames := 0, cells := 0, slots := 0, locals := 0 }
def J_X2_hasVariable_0 (θ : Th) (p : Program) (l : Launch) (e : Env) (s : State) (m : MethodId) (args : Array Value) (below : List Frame) (meth : Method) (c : Code) (g : Int32 → Mm → Option (Int32 × Mm)) : Prop := ∀ (x1 : Int32) (M : Mm) (r : Int32) (M1 : Mm), g x1 M = some (r, M1) → ∀ (H : Heap) (locs : List Loc) (ls : Array Slot), lv_has ls 2 [(0, .ref (tad θ 0)), (1, .int x1)] → wd θ M H → va_S (tA θ) s.heap H locs → W p l e rm_X2_hasVariable s m args below meth c H locs 0 0 (MQ below (qI θ r M1) args s 0 0 (tA θ)) (F0 m 0 ls [])
def b_X2_hasVariable_0 (N : Nat) (x1 : Int32) (M : Mm) : Option (Int32 × Mm) :=
  (if x1 < 0 then some (0, M) else (if (M.1 0) ≤ x1 then some (0, M) else some (1, M)))
set_option maxRecDepth 100000 in
set_option maxHeartbeats 4000000 in
theorem t_X2_hasVariable_0 {θ : Th} {p : Program} {l : Launch} {e : Env} {s : State} {m : MethodId} {args : Array Value} {below : List Frame} {meth : Method} {c : Code} (C : Cx θ p s m args meth c cX2_hasVariable 2 RX2 (some .boolean)) (N : Nat) : J_X2_hasVariable_0 θ p l e s m args below meth c (b_X2_hasVariable_0 N) := by
  intro x1 M r M1 h H locs ls hl hw hS
  unfold b_X2_hasVariable_0 at h
  refine lv_iload_n C.1 C.2.1 dX2_hasVariable_0 rfl (lv_at hl 1 rfl) ?_
  refine lv_if_lt (tgt := 19) C.1 C.2.1 dX2_hasVariable_1 (by decide) (fun c1 => ?_) (fun c1 => ?_)
  · have h := it_t c1 h
    refine lv_iconst (v := 0) C.1 C.2.1 dX2_hasVariable_19 (by decide) ?_
    cases h
    exact k_retz C hw hS (Or.inl rfl) dX2_hasVariable_20
  · have h := it_f c1 h
    refine lv_iload_n C.1 C.2.1 dX2_hasVariable_4 rfl (lv_at hl 1 rfl) ?_
    refine lv_aload_n C.1 C.2.1 dX2_hasVariable_5 rfl (lv_at hl 0 rfl) ?_
    refine gf_X2_sheet C hw w_129 dX2_hasVariable_6 ?_
    refine gf_X1_variables C hw w_75 dX2_hasVariable_9 ?_
    refine lv_icmp_ge (tgt := 19) C.1 C.2.1 dX2_hasVariable_12 (by decide) (fun c12 => ?_) (fun c12 => ?_)
    · have h := it_t c12 h
      refine lv_iconst (v := 0) C.1 C.2.1 dX2_hasVariable_19 (by decide) ?_
      cases h
      exact k_retz C hw hS (Or.inl rfl) dX2_hasVariable_20
    · have h := it_f c12 h
      refine lv_iconst (v := 1) C.1 C.2.1 dX2_hasVariable_15 (by decide) ?_
      refine lv_goto (tgt := 20) C.1 C.2.1 dX2_hasVariable_16 (by decide) ?_
      cases h
      exact k_retz C hw hS (Or.inr rfl) dX2_hasVariable_20
def f_X2_hasVariable (N : Nat) (x1 : Int32) (M : Mm) : Option (Int32 × Mm) := b_X2_hasVariable_0 N x1 M
set_option maxRecDepth 100000 in
theorem c_X2_hasVariable (θ : Th) (l : Launch) (N : Nat) {x1 : Int32} {M : Mm} {r : Int32} {M1 : Mm} (h : f_X2_hasVariable N x1 M = some (r, M1)) : Met l yX2_hasVariable (gws yX2_hasVariable cX2_hasVariable 2 (some .boolean)) rm_X2_hasVariable (va_Pc [.ref (tad θ 0), .int x1] (wU θ M)) (qI θ r M1) 0 0 (tA θ) :=
  k_met (by decide +kernel) (Nat.le_of_ble_eq_true rfl) (fun p e s m args below meth c C ls hl hw => t_X2_hasVariable_0 C N _ _ _ _ h _ _ ls (lv_sub hl [0, 1] rfl) hw va_S.rf)
abbrev rm_X2_isFactor : Room := { frames := 0, cells := 0, slots := 0, locals := 0 }
def J_X2_isFactor_0 (θ : Th) (p : Program) (l : Launch) (e : Env) (s : State) (m : MethodId) (args : Array Value) (below : List Frame) (meth : Method) (c : Code) (g : Int32 → Mm → Option (Int32 × Mm)) : Prop := ∀ (x0 : Int32) (M : Mm) (r : Int32) (M1 : Mm), g x0 M = some (r, M1) → ∀ (H : Heap) (locs : List Loc) (ls : Array Slot), lv_has ls 1 [(0, .int x0)] → wd θ M H → va_S (tA θ) s.heap H locs → W p l e rm_X2_isFactor s m args below meth c H locs 0 0 (MQ below (qI θ r M1) args s 0 0 (tA θ)) (F0 m 0 ls [])
def b_X2_isFactor_0 (N : Nat) (x0 : Int32) (M : Mm) : Option (Int32 × Mm) :=
  (if x0 < (-9) then some (0, M) else (if 9 < x0 then some (0, M) else some (1, M)))
set_option maxRecDepth 100000 in
set_option maxHeartbeats 4000000 in
theorem t_X2_isFactor_0 {θ : Th} {p : Program} {l : Launch} {e : Env} {s : State} {m : MethodId} {args : Array Value} {below : List Frame} {meth : Method} {c : Code} (C : Cx θ p s m args meth c cX2_isFactor 1 RX2 (some .boolean)) (N : Nat) : J_X2_isFactor_0 θ p l e s m args below meth c (b_X2_isFactor_0 N) := by
  intro x0 M r M1 h H locs ls hl hw hS
  unfold b_X2_isFactor_0 at h
  refine lv_iload_n C.1 C.2.1 dX2_isFactor_0 rfl (lv_at hl 0 rfl) ?_
  refine lv_bipush (v := (-9)) C.1 C.2.1 dX2_isFactor_1 (by decide) ?_
  refine lv_icmp_lt (tgt := 16) C.1 C.2.1 dX2_isFactor_3 (by decide) (fun c3 => ?_) (fun c3 => ?_)
  · have h := it_t c3 h
    refine lv_iconst (v := 0) C.1 C.2.1 dX2_isFactor_16 (by decide) ?_
    cases h
    exact k_retz C hw hS (Or.inl rfl) dX2_isFactor_17
  · have h := it_f c3 h
    refine lv_iload_n C.1 C.2.1 dX2_isFactor_6 rfl (lv_at hl 0 rfl) ?_
    refine lv_bipush (v := 9) C.1 C.2.1 dX2_isFactor_7 (by decide) ?_
    refine lv_icmp_gt (tgt := 16) C.1 C.2.1 dX2_isFactor_9 (by decide) (fun c9 => ?_) (fun c9 => ?_)
    · have h := it_t c9 h
      refine lv_iconst (v := 0) C.1 C.2.1 dX2_isFactor_16 (by decide) ?_
      cases h
      exact k_retz C hw hS (Or.inl rfl) dX2_isFactor_17
    · have h := it_f c9 h
      refine lv_iconst (v := 1) C.1 C.2.1 dX2_isFactor_12 (by decide) ?_
      refine lv_goto (tgt := 17) C.1 C.2.1 dX2_isFactor_13 (by decide) ?_
      cases h
      exact k_retz C hw hS (Or.inr rfl) dX2_isFactor_17
def f_X2_isFactor (N : Nat) (x0 : Int32) (M : Mm) : Option (Int32 × Mm) := b_X2_isFactor_0 N x0 M
set_option maxRecDepth 100000 in
theorem c_X2_isFactor (θ : Th) (l : Launch) (N : Nat) {x0 : Int32} {M : Mm} {r : Int32} {M1 : Mm} (h : f_X2_isFactor N x0 M = some (r, M1)) : Met l yX2_isFactor (gws yX2_isFactor cX2_isFactor 1 (some .boolean)) rm_X2_isFactor (va_Pc [.int x0] (wU θ M)) (qI θ r M1) 0 0 (tA θ) :=
  k_met (by decide +kernel) (Nat.le_of_ble_eq_true rfl) (fun p e s m args below meth c C ls hl hw => t_X2_isFactor_0 C N _ _ _ _ h _ _ ls (lv_sub hl [0] rfl) hw va_S.rf)
abbrev rm_X2_isPart : Room := { frames := 0, cells := 0, slots := 0, locals := 0 }
def J_X2_isPart_0 (θ : Th) (p : Program) (l : Launch) (e : Env) (s : State) (m : MethodId) (args : Array Value) (below : List Frame) (meth : Method) (c : Code) (g : Int32 → Mm → Option (Int32 × Mm)) : Prop := ∀ (x0 : Int32) (M : Mm) (r : Int32) (M1 : Mm), g x0 M = some (r, M1) → ∀ (H : Heap) (locs : List Loc) (ls : Array Slot), lv_has ls 1 [(0, .int x0)] → wd θ M H → va_S (tA θ) s.heap H locs → W p l e rm_X2_isPart s m args below meth c H locs 0 0 (MQ below (qI θ r M1) args s 0 0 (tA θ)) (F0 m 0 ls [])
def b_X2_isPart_0 (N : Nat) (x0 : Int32) (M : Mm) : Option (Int32 × Mm) :=
  (if x0 = 0 then some (1, M) else (if x0 = 1 then some (1, M) else some (0, M)))
set_option maxRecDepth 100000 in
set_option maxHeartbeats 4000000 in
theorem t_X2_isPart_0 {θ : Th} {p : Program} {l : Launch} {e : Env} {s : State} {m : MethodId} {args : Array Value} {below : List Frame} {meth : Method} {c : Code} (C : Cx θ p s m args meth c cX2_isPart 1 RX2 (some .boolean)) (N : Nat) : J_X2_isPart_0 θ p l e s m args below meth c (b_X2_isPart_0 N) := by
  intro x0 M r M1 h H locs ls hl hw hS
  unfold b_X2_isPart_0 at h
  refine lv_iload_n C.1 C.2.1 dX2_isPart_0 rfl (lv_at hl 0 rfl) ?_
  refine lv_if_eq (tgt := 9) C.1 C.2.1 dX2_isPart_1 (by decide) (fun c1 => ?_) (fun c1 => ?_)
  · have h := it_t c1 h
    refine lv_iconst (v := 1) C.1 C.2.1 dX2_isPart_9 (by decide) ?_
    refine lv_goto (tgt := 14) C.1 C.2.1 dX2_isPart_10 (by decide) ?_
    cases h
    exact k_retz C hw hS (Or.inr rfl) dX2_isPart_14
  · have h := it_f c1 h
    refine lv_iload_n C.1 C.2.1 dX2_isPart_4 rfl (lv_at hl 0 rfl) ?_
    refine lv_iconst (v := 1) C.1 C.2.1 dX2_isPart_5 (by decide) ?_
    refine lv_icmp_ne (tgt := 13) C.1 C.2.1 dX2_isPart_6 (by decide) (fun c6 => ?_) (fun c6 => ?_)
    · have h := it_f c6 h
      refine lv_iconst (v := 0) C.1 C.2.1 dX2_isPart_13 (by decide) ?_
      cases h
      exact k_retz C hw hS (Or.inl rfl) dX2_isPart_14
    · have h := it_t c6 h
      refine lv_iconst (v := 1) C.1 C.2.1 dX2_isPart_9 (by decide) ?_
      refine lv_goto (tgt := 14) C.1 C.2.1 dX2_isPart_10 (by decide) ?_
      cases h
      exact k_retz C hw hS (Or.inr rfl) dX2_isPart_14
def f_X2_isPart (N : Nat) (x0 : Int32) (M : Mm) : Option (Int32 × Mm) := b_X2_isPart_0 N x0 M
set_option maxRecDepth 100000 in
theorem c_X2_isPart (θ : Th) (l : Launch) (N : Nat) {x0 : Int32} {M : Mm} {r : Int32} {M1 : Mm} (h : f_X2_isPart N x0 M = some (r, M1)) : Met l yX2_isPart (gws yX2_isPart cX2_isPart 1 (some .boolean)) rm_X2_isPart (va_Pc [.int x0] (wU θ M)) (qI θ r M1) 0 0 (tA θ) :=
  k_met (by decide +kernel) (Nat.le_of_ble_eq_true rfl) (fun p e s m args below meth c C ls hl hw => t_X2_isPart_0 C N _ _ _ _ h _ _ ls (lv_sub hl [0] rfl) hw va_S.rf)
abbrev rm_X2_isPoint : Room := { frames := 0, cells := 0, slots := 0, locals := 0 }
def J_X2_isPoint_0 (θ : Th) (p : Program) (l : Launch) (e : Env) (s : State) (m : MethodId) (args : Array Value) (below : List Frame) (meth : Method) (c : Code) (g : Nat → Mm → Option (Int32 × Mm)) : Prop := ∀ (x0 : Nat) (M : Mm) (r : Int32) (M1 : Mm), g x0 M = some (r, M1) → ∀ (H : Heap) (locs : List Loc) (ls : Array Slot), lv_has ls 1 [(0, .ref (tad θ (22 + x0)))] → wd θ M H → va_S (tA θ) s.heap H locs → W p l e rm_X2_isPoint s m args below meth c H locs 0 0 (MQ below (qI θ r M1) args s 0 0 (tA θ)) (F0 m 0 ls [])
def b_X2_isPoint_0 (N : Nat) (x0 : Nat) (M : Mm) : Option (Int32 × Mm) :=
  (rL M x0 0).bind fun v2 => (if (lg_cmp v2 0) ≤ 0 then some (0, M) else (rL M x0 1).bind fun v10 => (if (lg_cmp v10 0) = 0 then some (1, M) else some (0, M)))
set_option maxRecDepth 100000 in
set_option maxHeartbeats 4000000 in
theorem t_X2_isPoint_0 {θ : Th} {p : Program} {l : Launch} {e : Env} {s : State} {m : MethodId} {args : Array Value} {below : List Frame} {meth : Method} {c : Code} (C : Cx θ p s m args meth c cX2_isPoint 1 RX2 (some .boolean)) (N : Nat) : J_X2_isPoint_0 θ p l e s m args below meth c (b_X2_isPoint_0 N) := by
  intro x0 M r M1 h H locs ls hl hw hS
  unfold b_X2_isPoint_0 at h
  refine lv_aload_n C.1 C.2.1 dX2_isPoint_0 rfl (lv_at hl 0 rfl) ?_
  refine lv_iconst (v := 0) C.1 C.2.1 dX2_isPoint_1 (by decide) ?_
  obtain ⟨v2, h2, h⟩ := bind_s h
  refine k_lald C hw x0 h2 dX2_isPoint_2 ?_
  refine lv_lconst (v := 0) C.1 C.2.1 dX2_isPoint_3 (by decide) ?_
  refine W.lcmp C.1 C.2.1 dX2_isPoint_4 ?_
  refine lv_if_le (tgt := 20) C.1 C.2.1 dX2_isPoint_5 (by decide) (fun c5 => ?_) (fun c5 => ?_)
  · have h := it_t c5 h
    refine lv_iconst (v := 0) C.1 C.2.1 dX2_isPoint_20 (by decide) ?_
    cases h
    exact k_retz C hw hS (Or.inl rfl) dX2_isPoint_21
  · have h := it_f c5 h
    refine lv_aload_n C.1 C.2.1 dX2_isPoint_8 rfl (lv_at hl 0 rfl) ?_
    refine lv_iconst (v := 1) C.1 C.2.1 dX2_isPoint_9 (by decide) ?_
    obtain ⟨v10, h10, h⟩ := bind_s h
    refine k_lald C hw x0 h10 dX2_isPoint_10 ?_
    refine lv_lconst (v := 0) C.1 C.2.1 dX2_isPoint_11 (by decide) ?_
    refine W.lcmp C.1 C.2.1 dX2_isPoint_12 ?_
    refine lv_if_ne (tgt := 20) C.1 C.2.1 dX2_isPoint_13 (by decide) (fun c13 => ?_) (fun c13 => ?_)
    · have h := it_f c13 h
      refine lv_iconst (v := 0) C.1 C.2.1 dX2_isPoint_20 (by decide) ?_
      cases h
      exact k_retz C hw hS (Or.inl rfl) dX2_isPoint_21
    · have h := it_t c13 h
      refine lv_iconst (v := 1) C.1 C.2.1 dX2_isPoint_16 (by decide) ?_
      refine lv_goto (tgt := 21) C.1 C.2.1 dX2_isPoint_17 (by decide) ?_
      cases h
      exact k_retz C hw hS (Or.inr rfl) dX2_isPoint_21
def f_X2_isPoint (N : Nat) (x0 : Nat) (M : Mm) : Option (Int32 × Mm) := b_X2_isPoint_0 N x0 M
set_option maxRecDepth 100000 in
theorem c_X2_isPoint (θ : Th) (l : Launch) (N : Nat) {x0 : Nat} {M : Mm} {r : Int32} {M1 : Mm} (h : f_X2_isPoint N x0 M = some (r, M1)) : Met l yX2_isPoint (gws yX2_isPoint cX2_isPoint 1 (some .boolean)) rm_X2_isPoint (va_Pc [.ref (tad θ (22 + x0))] (wU θ M)) (qI θ r M1) 0 0 (tA θ) :=
  k_met (by decide +kernel) (Nat.le_of_ble_eq_true rfl) (fun p e s m args below meth c C ls hl hw => t_X2_isPoint_0 C N _ _ _ _ h _ _ ls (lv_sub hl [0] rfl) hw va_S.rf)
abbrev rm_X2_isDirection : Room := { frames := 0, cells := 0, slots := 0, locals := 0 }
def J_X2_isDirection_0 (θ : Th) (p : Program) (l : Launch) (e : Env) (s : State) (m : MethodId) (args : Array Value) (below : List Frame) (meth : Method) (c : Code) (g : Nat → Mm → Option (Int32 × Mm)) : Prop := ∀ (x0 : Nat) (M : Mm) (r : Int32) (M1 : Mm), g x0 M = some (r, M1) → ∀ (H : Heap) (locs : List Loc) (ls : Array Slot), lv_has ls 1 [(0, .ref (tad θ (22 + x0)))] → wd θ M H → va_S (tA θ) s.heap H locs → W p l e rm_X2_isDirection s m args below meth c H locs 0 0 (MQ below (qI θ r M1) args s 0 0 (tA θ)) (F0 m 0 ls [])
def b_X2_isDirection_0 (N : Nat) (x0 : Nat) (M : Mm) : Option (Int32 × Mm) :=
  (rL M x0 0).bind fun v2 => (if (lg_cmp v2 0) = 0 then (rL M x0 1).bind fun v10 => (if (lg_cmp v10 0) = 0 then some (1, M) else some (0, M)) else some (0, M))
set_option maxRecDepth 100000 in
set_option maxHeartbeats 4000000 in
theorem t_X2_isDirection_0 {θ : Th} {p : Program} {l : Launch} {e : Env} {s : State} {m : MethodId} {args : Array Value} {below : List Frame} {meth : Method} {c : Code} (C : Cx θ p s m args meth c cX2_isDirection 1 RX2 (some .boolean)) (N : Nat) : J_X2_isDirection_0 θ p l e s m args below meth c (b_X2_isDirection_0 N) := by
  intro x0 M r M1 h H locs ls hl hw hS
  unfold b_X2_isDirection_0 at h
  refine lv_aload_n C.1 C.2.1 dX2_isDirection_0 rfl (lv_at hl 0 rfl) ?_
  refine lv_iconst (v := 0) C.1 C.2.1 dX2_isDirection_1 (by decide) ?_
  obtain ⟨v2, h2, h⟩ := bind_s h
  refine k_lald C hw x0 h2 dX2_isDirection_2 ?_
  refine lv_lconst (v := 0) C.1 C.2.1 dX2_isDirection_3 (by decide) ?_
  refine W.lcmp C.1 C.2.1 dX2_isDirection_4 ?_
  refine lv_if_ne (tgt := 20) C.1 C.2.1 dX2_isDirection_5 (by decide) (fun c5 => ?_) (fun c5 => ?_)
  · have h := it_f c5 h
    refine lv_iconst (v := 0) C.1 C.2.1 dX2_isDirection_20 (by decide) ?_
    cases h
    exact k_retz C hw hS (Or.inl rfl) dX2_isDirection_21
  · have h := it_t c5 h
    refine lv_aload_n C.1 C.2.1 dX2_isDirection_8 rfl (lv_at hl 0 rfl) ?_
    refine lv_iconst (v := 1) C.1 C.2.1 dX2_isDirection_9 (by decide) ?_
    obtain ⟨v10, h10, h⟩ := bind_s h
    refine k_lald C hw x0 h10 dX2_isDirection_10 ?_
    refine lv_lconst (v := 0) C.1 C.2.1 dX2_isDirection_11 (by decide) ?_
    refine W.lcmp C.1 C.2.1 dX2_isDirection_12 ?_
    refine lv_if_ne (tgt := 20) C.1 C.2.1 dX2_isDirection_13 (by decide) (fun c13 => ?_) (fun c13 => ?_)
    · have h := it_f c13 h
      refine lv_iconst (v := 0) C.1 C.2.1 dX2_isDirection_20 (by decide) ?_
      cases h
      exact k_retz C hw hS (Or.inl rfl) dX2_isDirection_21
    · have h := it_t c13 h
      refine lv_iconst (v := 1) C.1 C.2.1 dX2_isDirection_16 (by decide) ?_
      refine lv_goto (tgt := 21) C.1 C.2.1 dX2_isDirection_17 (by decide) ?_
      cases h
      exact k_retz C hw hS (Or.inr rfl) dX2_isDirection_21
def f_X2_isDirection (N : Nat) (x0 : Nat) (M : Mm) : Option (Int32 × Mm) := b_X2_isDirection_0 N x0 M
set_option maxRecDepth 100000 in
theorem c_X2_isDirection (θ : Th) (l : Launch) (N : Nat) {x0 : Nat} {M : Mm} {r : Int32} {M1 : Mm} (h : f_X2_isDirection N x0 M = some (r, M1)) : Met l yX2_isDirection (gws yX2_isDirection cX2_isDirection 1 (some .boolean)) rm_X2_isDirection (va_Pc [.ref (tad θ (22 + x0))] (wU θ M)) (qI θ r M1) 0 0 (tA θ) :=
  k_met (by decide +kernel) (Nat.le_of_ble_eq_true rfl) (fun p e s m args below meth c C ls hl hw => t_X2_isDirection_0 C N _ _ _ _ h _ _ ls (lv_sub hl [0] rfl) hw va_S.rf)
abbrev rm_X2_isFeasible : Room := { frames := 4, cells := 0, slots := 0, locals := 105 }
def J_X2_isFeasible_14 (θ : Th) (p : Program) (l : Launch) (e : Env) (s : State) (m : MethodId) (args : Array Value) (below : List Frame) (meth : Method) (c : Code) (g : Int32 → Mm → Option (Int32 × Mm)) : Prop := ∀ (x2 : Int32) (M : Mm) (r : Int32) (M1 : Mm), g x2 M = some (r, M1) → ∀ (H : Heap) (locs : List Loc) (ls : Array Slot), lv_has ls 3 [(0, .ref (tad θ 0)), (2, .int x2)] → wd θ M H → va_S (tA θ) s.heap H locs → W p l e rm_X2_isFeasible s m args below meth c H locs 0 0 (MQ below (qI θ r M1) args s 0 0 (tA θ)) (F0 m 14 ls [])
def J_X2_isFeasible_0 (θ : Th) (p : Program) (l : Launch) (e : Env) (s : State) (m : MethodId) (args : Array Value) (below : List Frame) (meth : Method) (c : Code) (g : Int32 → Mm → Option (Int32 × Mm)) : Prop := ∀ (x1 : Int32) (M : Mm) (r : Int32) (M1 : Mm), g x1 M = some (r, M1) → ∀ (H : Heap) (locs : List Loc) (ls : Array Slot), lv_has ls 3 [(0, .ref (tad θ 0)), (1, .int x1)] → wd θ M H → va_S (tA θ) s.heap H locs → W p l e rm_X2_isFeasible s m args below meth c H locs 0 0 (MQ below (qI θ r M1) args s 0 0 (tA θ)) (F0 m 0 ls [])
def F_X2_isFeasible_14 (N : Nat) (k14 : Int32 → Mm → Option (Int32 × Mm)) (x2 : Int32) (M : Mm) : Option (Int32 × Mm) :=
  (if (M.1 2) ≤ x2 then some (0, M) else (rO 2 x2).bind fun v33 => (f_X2_isPoint N v33 M).bind fun (r34, M34) => (if r34 = 0 then k14 (x2 + 1) M34 else some (1, M34)))
abbrev b_X2_isFeasible_14 (N : Nat) : Int32 → Mm → Option (Int32 × Mm) := lpT (fun _ _ => none) (F_X2_isFeasible_14 N) N
set_option maxRecDepth 100000 in
set_option maxHeartbeats 4000000 in
theorem tF_X2_isFeasible_14 {θ : Th} {p : Program} {l : Launch} {e : Env} {s : State} {m : MethodId} {args : Array Value} {below : List Frame} {meth : Method} {c : Code} (C : Cx θ p s m args meth c cX2_isFeasible 3 RX2 (some .boolean)) (N : Nat) {k14 : Int32 → Mm → Option (Int32 × Mm)} (hk14 : J_X2_isFeasible_14 θ p l e s m args below meth c k14) : J_X2_isFeasible_14 θ p l e s m args below meth c (F_X2_isFeasible_14 N k14) := by
  intro x2 M r M1 h H locs ls hl hw hS
  unfold F_X2_isFeasible_14 at h
  refine lv_iload_n C.1 C.2.1 dX2_isFeasible_14 rfl (lv_at hl 1 rfl) ?_
  refine lv_aload_n C.1 C.2.1 dX2_isFeasible_15 rfl (lv_at hl 0 rfl) ?_
  refine gf_X2_cone C hw w_130 dX2_isFeasible_16 ?_
  refine gf_X0_count C hw w_111 dX2_isFeasible_19 ?_
  refine lv_icmp_ge (tgt := 48) C.1 C.2.1 dX2_isFeasible_22 (by decide) (fun c22 => ?_) (fun c22 => ?_)
  · have h := it_t c22 h
    refine lv_iconst (v := 0) C.1 C.2.1 dX2_isFeasible_48 (by decide) ?_
    cases h
    exact k_retz C hw hS (Or.inl rfl) dX2_isFeasible_49
  · have h := it_f c22 h
    refine lv_aload_n C.1 C.2.1 dX2_isFeasible_25 rfl (lv_at hl 0 rfl) ?_
    refine gf_X2_cone C hw w_130 dX2_isFeasible_26 ?_
    refine gf_X0_rays C hw w_109 dX2_isFeasible_29 ?_
    refine lv_iload_n C.1 C.2.1 dX2_isFeasible_32 rfl (lv_at hl 1 rfl) ?_
    obtain ⟨v33, h33, h⟩ := bind_s h
    refine k_aald C hw 2 (by decide) h33 dX2_isFeasible_33 ?_
    obtain ⟨⟨r34, M34⟩, h34, h⟩ := bind_s h
    dsimp only at h
    refine k_ci (k_runS (As := [.ref (tad θ (22 + v33))]) C cf_X2_isPoint cs_X2_isPoint w_201 (c_X2_isPoint θ l N h34) ⟨rfl, rfl, Nat.le_of_ble_eq_true rfl, Nat.le_of_ble_eq_true rfl⟩ rfl hl.1 rfl (Nat.le_of_ble_eq_true rfl) dX2_isFeasible_34 ⟨Nat.zero_le _, Nat.zero_le _⟩ hw) hS (fun H locs hw hS => ?_)
    refine lv_if_eq (tgt := 42) C.1 C.2.1 dX2_isFeasible_37 (by decide) (fun c37 => ?_) (fun c37 => ?_)
    · have h := it_t c37 h
      refine lv_iinc (v := (x2 + 1)) (lv' := [(2, .int (x2 + 1)), (0, .ref (tad θ 0))]) C.1 C.2.1 dX2_isFeasible_42 hl (k := 1) rfl rfl (by decide) rfl (fun ls hl => ?_)
      refine lv_goto (tgt := 14) C.1 C.2.1 dX2_isFeasible_45 (by decide) ?_
      exact hk14 _ _ _ _ h _ _ ls (lv_sub hl [1, 0] rfl) hw hS
    · have h := it_f c37 h
      refine lv_iconst (v := 1) C.1 C.2.1 dX2_isFeasible_40 (by decide) ?_
      cases h
      exact k_retz C hw hS (Or.inr rfl) dX2_isFeasible_41
theorem t_X2_isFeasible_14 {θ : Th} {p : Program} {l : Launch} {e : Env} {s : State} {m : MethodId} {args : Array Value} {below : List Frame} {meth : Method} {c : Code} (C : Cx θ p s m args meth c cX2_isFeasible 3 RX2 (some .boolean)) (N : Nat) : J_X2_isFeasible_14 θ p l e s m args below meth c (b_X2_isFeasible_14 N) := lpT_ind (J := J_X2_isFeasible_14 θ p l e s m args below meth c) (fun _ _ _ _ h => by cases h) (fun k hk => tF_X2_isFeasible_14 C N hk) N
def b_X2_isFeasible_0 (N : Nat) (x1 : Int32) (M : Mm) : Option (Int32 × Mm) :=
  (f_X0_collect N x1 M).bind fun M9 => b_X2_isFeasible_14 N 0 M9
set_option maxRecDepth 100000 in
set_option maxHeartbeats 4000000 in
theorem t_X2_isFeasible_0 {θ : Th} {p : Program} {l : Launch} {e : Env} {s : State} {m : MethodId} {args : Array Value} {below : List Frame} {meth : Method} {c : Code} (C : Cx θ p s m args meth c cX2_isFeasible 3 RX2 (some .boolean)) (N : Nat) : J_X2_isFeasible_0 θ p l e s m args below meth c (b_X2_isFeasible_0 N) := by
  intro x1 M r M1 h H locs ls hl hw hS
  unfold b_X2_isFeasible_0 at h
  refine lv_aload_n C.1 C.2.1 dX2_isFeasible_0 rfl (lv_at hl 0 rfl) ?_
  refine gf_X2_cone C hw w_130 dX2_isFeasible_1 ?_
  refine lv_aload_n C.1 C.2.1 dX2_isFeasible_4 rfl (lv_at hl 0 rfl) ?_
  refine gf_X2_sheet C hw w_129 dX2_isFeasible_5 ?_
  refine lv_iload_n C.1 C.2.1 dX2_isFeasible_8 rfl (lv_at hl 1 rfl) ?_
  obtain ⟨M9, h9, h⟩ := bind_s h
  refine k_cv (k_runV (As := [.ref (tad θ 1), .int x1]) C cf_X0_collect cv_X0_collect w_151 rc2 (c_X0_collect θ l N h9) ⟨rfl, rfl, Nat.le_of_ble_eq_true rfl, Nat.le_of_ble_eq_true rfl⟩ rfl hl.1 rfl (Nat.le_of_ble_eq_true rfl) dX2_isFeasible_9 ⟨Nat.zero_le _, Nat.zero_le _⟩ hw) hS (fun H locs hw hS => ?_)
  refine lv_iconst (v := 0) C.1 C.2.1 dX2_isFeasible_12 (by decide) ?_
  refine lv_istore_n (lv' := [(2, .int 0), (0, .ref (tad θ 0)), (1, .int x1)]) C.1 C.2.1 dX2_isFeasible_13 rfl hl (by decide) rfl (fun ls hl => ?_)
  exact t_X2_isFeasible_14 C N _ _ _ _ h _ _ ls (lv_sub hl [1, 0] rfl) hw hS
def f_X2_isFeasible (N : Nat) (x1 : Int32) (M : Mm) : Option (Int32 × Mm) := b_X2_isFeasible_0 N x1 M
set_option maxRecDepth 100000 in
theorem c_X2_isFeasible (θ : Th) (l : Launch) (N : Nat) {x1 : Int32} {M : Mm} {r : Int32} {M1 : Mm} (h : f_X2_isFeasible N x1 M = some (r, M1)) : Met l yX2_isFeasible (gws yX2_isFeasible cX2_isFeasible 3 (some .boolean)) rm_X2_isFeasible (va_Pc [.ref (tad θ 0), .int x1] (wU θ M)) (qI θ r M1) 0 0 (tA θ) :=
  k_met (by decide +kernel) (Nat.le_of_ble_eq_true rfl) (fun p e s m args below meth c C ls hl hw => t_X2_isFeasible_0 C N _ _ _ _ h _ _ ls (lv_sub hl [0, 1] rfl) hw va_S.rf)
abbrev rm_X2_canRise : Room := { frames := 1, cells := 0, slots := 0, locals := 24 }
def J_X2_canRise_2 (θ : Th) (p : Program) (l : Launch) (e : Env) (s : State) (m : MethodId) (args : Array Value) (below : List Frame) (meth : Method) (c : Code) (g : Int32 → Mm → Option (Int32 × Mm)) : Prop := ∀ (x1 : Int32) (M : Mm) (r : Int32) (M1 : Mm), g x1 M = some (r, M1) → ∀ (H : Heap) (locs : List Loc) (ls : Array Slot), lv_has ls 2 [(0, .ref (tad θ 0)), (1, .int x1)] → wd θ M H → va_S (tA θ) s.heap H locs → W p l e rm_X2_canRise s m args below meth c H locs 0 0 (MQ below (qI θ r M1) args s 0 0 (tA θ)) (F0 m 2 ls [])
def J_X2_canRise_0 (θ : Th) (p : Program) (l : Launch) (e : Env) (s : State) (m : MethodId) (args : Array Value) (below : List Frame) (meth : Method) (c : Code) (g : Mm → Option (Int32 × Mm)) : Prop := ∀ (M : Mm) (r : Int32) (M1 : Mm), g M = some (r, M1) → ∀ (H : Heap) (locs : List Loc) (ls : Array Slot), lv_has ls 2 [(0, .ref (tad θ 0))] → wd θ M H → va_S (tA θ) s.heap H locs → W p l e rm_X2_canRise s m args below meth c H locs 0 0 (MQ below (qI θ r M1) args s 0 0 (tA θ)) (F0 m 0 ls [])
def F_X2_canRise_2 (N : Nat) (k2 : Int32 → Mm → Option (Int32 × Mm)) (x1 : Int32) (M : Mm) : Option (Int32 × Mm) :=
  (if (M.1 2) ≤ x1 then some (0, M) else (rO 2 x1).bind fun v21 => (f_X2_isDirection N v21 M).bind fun (r22, M22) => (if r22 = 0 then k2 (x1 + 1) M22 else (rO 2 x1).bind fun v40 => (f_X1_worth N v40 M22).bind fun (r41, M41) => (if (lg_cmp r41 0) ≤ 0 then k2 (x1 + 1) M41 else some (1, M41))))
abbrev b_X2_canRise_2 (N : Nat) : Int32 → Mm → Option (Int32 × Mm) := lpT (fun _ _ => none) (F_X2_canRise_2 N) N
set_option maxRecDepth 100000 in
set_option maxHeartbeats 4000000 in
theorem tF_X2_canRise_2 {θ : Th} {p : Program} {l : Launch} {e : Env} {s : State} {m : MethodId} {args : Array Value} {below : List Frame} {meth : Method} {c : Code} (C : Cx θ p s m args meth c cX2_canRise 2 RX2 (some .boolean)) (N : Nat) {k2 : Int32 → Mm → Option (Int32 × Mm)} (hk2 : J_X2_canRise_2 θ p l e s m args below meth c k2) : J_X2_canRise_2 θ p l e s m args below meth c (F_X2_canRise_2 N k2) := by
  intro x1 M r M1 h H locs ls hl hw hS
  unfold F_X2_canRise_2 at h
  refine lv_iload_n C.1 C.2.1 dX2_canRise_2 rfl (lv_at hl 1 rfl) ?_
  refine lv_aload_n C.1 C.2.1 dX2_canRise_3 rfl (lv_at hl 0 rfl) ?_
  refine gf_X2_cone C hw w_130 dX2_canRise_4 ?_
  refine gf_X0_count C hw w_111 dX2_canRise_7 ?_
  refine lv_icmp_ge (tgt := 57) C.1 C.2.1 dX2_canRise_10 (by decide) (fun c10 => ?_) (fun c10 => ?_)
  · have h := it_t c10 h
    refine lv_iconst (v := 0) C.1 C.2.1 dX2_canRise_57 (by decide) ?_
    cases h
    exact k_retz C hw hS (Or.inl rfl) dX2_canRise_58
  · have h := it_f c10 h
    refine lv_aload_n C.1 C.2.1 dX2_canRise_13 rfl (lv_at hl 0 rfl) ?_
    refine gf_X2_cone C hw w_130 dX2_canRise_14 ?_
    refine gf_X0_rays C hw w_109 dX2_canRise_17 ?_
    refine lv_iload_n C.1 C.2.1 dX2_canRise_20 rfl (lv_at hl 1 rfl) ?_
    obtain ⟨v21, h21, h⟩ := bind_s h
    refine k_aald C hw 2 (by decide) h21 dX2_canRise_21 ?_
    obtain ⟨⟨r22, M22⟩, h22, h⟩ := bind_s h
    dsimp only at h
    refine k_ci (k_runS (As := [.ref (tad θ (22 + v21))]) C cf_X2_isDirection cs_X2_isDirection w_208 (c_X2_isDirection θ l N h22) ⟨rfl, rfl, Nat.le_of_ble_eq_true rfl, Nat.le_of_ble_eq_true rfl⟩ rfl hl.1 rfl (Nat.le_of_ble_eq_true rfl) dX2_canRise_22 ⟨Nat.zero_le _, Nat.zero_le _⟩ hw) hS (fun H locs hw hS => ?_)
    refine lv_if_eq (tgt := 51) C.1 C.2.1 dX2_canRise_25 (by decide) (fun c25 => ?_) (fun c25 => ?_)
    · have h := it_t c25 h
      refine lv_iinc (v := (x1 + 1)) (lv' := [(1, .int (x1 + 1)), (0, .ref (tad θ 0))]) C.1 C.2.1 dX2_canRise_51 hl (k := 1) rfl rfl (by decide) rfl (fun ls hl => ?_)
      refine lv_goto (tgt := 2) C.1 C.2.1 dX2_canRise_54 (by decide) ?_
      exact hk2 _ _ _ _ h _ _ ls (lv_sub hl [1, 0] rfl) hw hS
    · have h := it_f c25 h
      refine lv_aload_n C.1 C.2.1 dX2_canRise_28 rfl (lv_at hl 0 rfl) ?_
      refine gf_X2_sheet C hw w_129 dX2_canRise_29 ?_
      refine lv_aload_n C.1 C.2.1 dX2_canRise_32 rfl (lv_at hl 0 rfl) ?_
      refine gf_X2_cone C hw w_130 dX2_canRise_33 ?_
      refine gf_X0_rays C hw w_109 dX2_canRise_36 ?_
      refine lv_iload_n C.1 C.2.1 dX2_canRise_39 rfl (lv_at hl 1 rfl) ?_
      obtain ⟨v40, h40, h⟩ := bind_s h
      refine k_aald C hw 2 (by decide) h40 dX2_canRise_40 ?_
      obtain ⟨⟨r41, M41⟩, h41, h⟩ := bind_s h
      dsimp only at h
      refine k_cl (k_runV (As := [.ref (tad θ (22 + v40))]) C cf_X1_worth cv_X1_worth w_211 rc1 (c_X1_worth θ l N h41) ⟨rfl, rfl, Nat.le_of_ble_eq_true rfl, Nat.le_of_ble_eq_true rfl⟩ rfl hl.1 rfl (Nat.le_of_ble_eq_true rfl) dX2_canRise_41 ⟨Nat.zero_le _, Nat.zero_le _⟩ hw) hS (fun H locs hw hS => ?_)
      refine lv_lconst (v := 0) C.1 C.2.1 dX2_canRise_44 (by decide) ?_
      refine W.lcmp C.1 C.2.1 dX2_canRise_45 ?_
      refine lv_if_le (tgt := 51) C.1 C.2.1 dX2_canRise_46 (by decide) (fun c46 => ?_) (fun c46 => ?_)
      · have h := it_t c46 h
        refine lv_iinc (v := (x1 + 1)) (lv' := [(1, .int (x1 + 1)), (0, .ref (tad θ 0))]) C.1 C.2.1 dX2_canRise_51 hl (k := 1) rfl rfl (by decide) rfl (fun ls hl => ?_)
        refine lv_goto (tgt := 2) C.1 C.2.1 dX2_canRise_54 (by decide) ?_
        exact hk2 _ _ _ _ h _ _ ls (lv_sub hl [1, 0] rfl) hw hS
      · have h := it_f c46 h
        refine lv_iconst (v := 1) C.1 C.2.1 dX2_canRise_49 (by decide) ?_
        cases h
        exact k_retz C hw hS (Or.inr rfl) dX2_canRise_50
theorem t_X2_canRise_2 {θ : Th} {p : Program} {l : Launch} {e : Env} {s : State} {m : MethodId} {args : Array Value} {below : List Frame} {meth : Method} {c : Code} (C : Cx θ p s m args meth c cX2_canRise 2 RX2 (some .boolean)) (N : Nat) : J_X2_canRise_2 θ p l e s m args below meth c (b_X2_canRise_2 N) := lpT_ind (J := J_X2_canRise_2 θ p l e s m args below meth c) (fun _ _ _ _ h => by cases h) (fun k hk => tF_X2_canRise_2 C N hk) N
def b_X2_canRise_0 (N : Nat) (M : Mm) : Option (Int32 × Mm) :=
  b_X2_canRise_2 N 0 M
set_option maxRecDepth 100000 in
set_option maxHeartbeats 4000000 in
theorem t_X2_canRise_0 {θ : Th} {p : Program} {l : Launch} {e : Env} {s : State} {m : MethodId} {args : Array Value} {below : List Frame} {meth : Method} {c : Code} (C : Cx θ p s m args meth c cX2_canRise 2 RX2 (some .boolean)) (N : Nat) : J_X2_canRise_0 θ p l e s m args below meth c (b_X2_canRise_0 N) := by
  intro M r M1 h H locs ls hl hw hS
  unfold b_X2_canRise_0 at h
  refine lv_iconst (v := 0) C.1 C.2.1 dX2_canRise_0 (by decide) ?_
  refine lv_istore_n (lv' := [(1, .int 0), (0, .ref (tad θ 0))]) C.1 C.2.1 dX2_canRise_1 rfl hl (by decide) rfl (fun ls hl => ?_)
  exact t_X2_canRise_2 C N _ _ _ _ h _ _ ls (lv_sub hl [1, 0] rfl) hw hS
def f_X2_canRise (N : Nat) (M : Mm) : Option (Int32 × Mm) := b_X2_canRise_0 N M
set_option maxRecDepth 100000 in
theorem c_X2_canRise (θ : Th) (l : Launch) (N : Nat) {M : Mm} {r : Int32} {M1 : Mm} (h : f_X2_canRise N M = some (r, M1)) : Met l yX2_canRise (gws yX2_canRise cX2_canRise 2 (some .boolean)) rm_X2_canRise (va_Pc [.ref (tad θ 0)] (wU θ M)) (qI θ r M1) 0 0 (tA θ) :=
  k_met (by decide +kernel) (Nat.le_of_ble_eq_true rfl) (fun p e s m args below meth c C ls hl hw => t_X2_canRise_0 C N _ _ _ h _ _ ls (lv_sub hl [0] rfl) hw va_S.rf)
abbrev rm_X2_canGrow : Room := { frames := 1, cells := 0, slots := 0, locals := 20 }
def J_X2_canGrow_2 (θ : Th) (p : Program) (l : Launch) (e : Env) (s : State) (m : MethodId) (args : Array Value) (below : List Frame) (meth : Method) (c : Code) (g : Int32 → Int32 → Mm → Option (Int32 × Mm)) : Prop := ∀ (x1 : Int32) (x2 : Int32) (M : Mm) (r : Int32) (M1 : Mm), g x1 x2 M = some (r, M1) → ∀ (H : Heap) (locs : List Loc) (ls : Array Slot), lv_has ls 3 [(0, .ref (tad θ 0)), (1, .int x1), (2, .int x2)] → wd θ M H → va_S (tA θ) s.heap H locs → W p l e rm_X2_canGrow s m args below meth c H locs 0 0 (MQ below (qI θ r M1) args s 0 0 (tA θ)) (F0 m 2 ls [])
def J_X2_canGrow_0 (θ : Th) (p : Program) (l : Launch) (e : Env) (s : State) (m : MethodId) (args : Array Value) (below : List Frame) (meth : Method) (c : Code) (g : Int32 → Mm → Option (Int32 × Mm)) : Prop := ∀ (x1 : Int32) (M : Mm) (r : Int32) (M1 : Mm), g x1 M = some (r, M1) → ∀ (H : Heap) (locs : List Loc) (ls : Array Slot), lv_has ls 3 [(0, .ref (tad θ 0)), (1, .int x1)] → wd θ M H → va_S (tA θ) s.heap H locs → W p l e rm_X2_canGrow s m args below meth c H locs 0 0 (MQ below (qI θ r M1) args s 0 0 (tA θ)) (F0 m 0 ls [])
def F_X2_canGrow_2 (N : Nat) (k2 : Int32 → Int32 → Mm → Option (Int32 × Mm)) (x1 : Int32) (x2 : Int32) (M : Mm) : Option (Int32 × Mm) :=
  (if (M.1 2) ≤ x2 then some (0, M) else (rO 2 x2).bind fun v21 => (f_X2_isDirection N v21 M).bind fun (r22, M22) => (if r22 = 0 then k2 x1 (x2 + 1) M22 else (rO 2 x2).bind fun v36 => (rL M22 v36 (2 + x1)).bind fun v40 => (if (lg_cmp v40 0) ≤ 0 then k2 x1 (x2 + 1) M22 else some (1, M22))))
abbrev b_X2_canGrow_2 (N : Nat) : Int32 → Int32 → Mm → Option (Int32 × Mm) := lpT (fun _ _ _ => none) (F_X2_canGrow_2 N) N
set_option maxRecDepth 100000 in
set_option maxHeartbeats 4000000 in
theorem tF_X2_canGrow_2 {θ : Th} {p : Program} {l : Launch} {e : Env} {s : State} {m : MethodId} {args : Array Value} {below : List Frame} {meth : Method} {c : Code} (C : Cx θ p s m args meth c cX2_canGrow 3 RX2 (some .boolean)) (N : Nat) {k2 : Int32 → Int32 → Mm → Option (Int32 × Mm)} (hk2 : J_X2_canGrow_2 θ p l e s m args below meth c k2) : J_X2_canGrow_2 θ p l e s m args below meth c (F_X2_canGrow_2 N k2) := by
  intro x1 x2 M r M1 h H locs ls hl hw hS
  unfold F_X2_canGrow_2 at h
  refine lv_iload_n C.1 C.2.1 dX2_canGrow_2 rfl (lv_at hl 2 rfl) ?_
  refine lv_aload_n C.1 C.2.1 dX2_canGrow_3 rfl (lv_at hl 0 rfl) ?_
  refine gf_X2_cone C hw w_130 dX2_canGrow_4 ?_
  refine gf_X0_count C hw w_111 dX2_canGrow_7 ?_
  refine lv_icmp_ge (tgt := 54) C.1 C.2.1 dX2_canGrow_10 (by decide) (fun c10 => ?_) (fun c10 => ?_)
  · have h := it_t c10 h
    refine lv_iconst (v := 0) C.1 C.2.1 dX2_canGrow_54 (by decide) ?_
    cases h
    exact k_retz C hw hS (Or.inl rfl) dX2_canGrow_55
  · have h := it_f c10 h
    refine lv_aload_n C.1 C.2.1 dX2_canGrow_13 rfl (lv_at hl 0 rfl) ?_
    refine gf_X2_cone C hw w_130 dX2_canGrow_14 ?_
    refine gf_X0_rays C hw w_109 dX2_canGrow_17 ?_
    refine lv_iload_n C.1 C.2.1 dX2_canGrow_20 rfl (lv_at hl 2 rfl) ?_
    obtain ⟨v21, h21, h⟩ := bind_s h
    refine k_aald C hw 2 (by decide) h21 dX2_canGrow_21 ?_
    obtain ⟨⟨r22, M22⟩, h22, h⟩ := bind_s h
    dsimp only at h
    refine k_ci (k_runS (As := [.ref (tad θ (22 + v21))]) C cf_X2_isDirection cs_X2_isDirection w_208 (c_X2_isDirection θ l N h22) ⟨rfl, rfl, Nat.le_of_ble_eq_true rfl, Nat.le_of_ble_eq_true rfl⟩ rfl hl.1 rfl (Nat.le_of_ble_eq_true rfl) dX2_canGrow_22 ⟨Nat.zero_le _, Nat.zero_le _⟩ hw) hS (fun H locs hw hS => ?_)
    refine lv_if_eq (tgt := 48) C.1 C.2.1 dX2_canGrow_25 (by decide) (fun c25 => ?_) (fun c25 => ?_)
    · have h := it_t c25 h
      refine lv_iinc (v := (x2 + 1)) (lv' := [(2, .int (x2 + 1)), (0, .ref (tad θ 0)), (1, .int x1)]) C.1 C.2.1 dX2_canGrow_48 hl (k := 2) rfl rfl (by decide) rfl (fun ls hl => ?_)
      refine lv_goto (tgt := 2) C.1 C.2.1 dX2_canGrow_51 (by decide) ?_
      exact hk2 _ _ _ _ _ h _ _ ls (lv_sub hl [1, 2, 0] rfl) hw hS
    · have h := it_f c25 h
      refine lv_aload_n C.1 C.2.1 dX2_canGrow_28 rfl (lv_at hl 0 rfl) ?_
      refine gf_X2_cone C hw w_130 dX2_canGrow_29 ?_
      refine gf_X0_rays C hw w_109 dX2_canGrow_32 ?_
      refine lv_iload_n C.1 C.2.1 dX2_canGrow_35 rfl (lv_at hl 2 rfl) ?_
      obtain ⟨v36, h36, h⟩ := bind_s h
      refine k_aald C hw 2 (by decide) h36 dX2_canGrow_36 ?_
      refine lv_iconst (v := 2) C.1 C.2.1 dX2_canGrow_37 (by decide) ?_
      refine lv_iload_n C.1 C.2.1 dX2_canGrow_38 rfl (lv_at hl 1 rfl) ?_
      refine lv_iadd C.1 C.2.1 dX2_canGrow_39 ?_
      obtain ⟨v40, h40, h⟩ := bind_s h
      refine k_lald C hw v36 h40 dX2_canGrow_40 ?_
      refine lv_lconst (v := 0) C.1 C.2.1 dX2_canGrow_41 (by decide) ?_
      refine W.lcmp C.1 C.2.1 dX2_canGrow_42 ?_
      refine lv_if_le (tgt := 48) C.1 C.2.1 dX2_canGrow_43 (by decide) (fun c43 => ?_) (fun c43 => ?_)
      · have h := it_t c43 h
        refine lv_iinc (v := (x2 + 1)) (lv' := [(2, .int (x2 + 1)), (0, .ref (tad θ 0)), (1, .int x1)]) C.1 C.2.1 dX2_canGrow_48 hl (k := 2) rfl rfl (by decide) rfl (fun ls hl => ?_)
        refine lv_goto (tgt := 2) C.1 C.2.1 dX2_canGrow_51 (by decide) ?_
        exact hk2 _ _ _ _ _ h _ _ ls (lv_sub hl [1, 2, 0] rfl) hw hS
      · have h := it_f c43 h
        refine lv_iconst (v := 1) C.1 C.2.1 dX2_canGrow_46 (by decide) ?_
        cases h
        exact k_retz C hw hS (Or.inr rfl) dX2_canGrow_47
theorem t_X2_canGrow_2 {θ : Th} {p : Program} {l : Launch} {e : Env} {s : State} {m : MethodId} {args : Array Value} {below : List Frame} {meth : Method} {c : Code} (C : Cx θ p s m args meth c cX2_canGrow 3 RX2 (some .boolean)) (N : Nat) : J_X2_canGrow_2 θ p l e s m args below meth c (b_X2_canGrow_2 N) := lpT_ind (J := J_X2_canGrow_2 θ p l e s m args below meth c) (fun _ _ _ _ _ h => by cases h) (fun k hk => tF_X2_canGrow_2 C N hk) N
def b_X2_canGrow_0 (N : Nat) (x1 : Int32) (M : Mm) : Option (Int32 × Mm) :=
  b_X2_canGrow_2 N x1 0 M
set_option maxRecDepth 100000 in
set_option maxHeartbeats 4000000 in
theorem t_X2_canGrow_0 {θ : Th} {p : Program} {l : Launch} {e : Env} {s : State} {m : MethodId} {args : Array Value} {below : List Frame} {meth : Method} {c : Code} (C : Cx θ p s m args meth c cX2_canGrow 3 RX2 (some .boolean)) (N : Nat) : J_X2_canGrow_0 θ p l e s m args below meth c (b_X2_canGrow_0 N) := by
  intro x1 M r M1 h H locs ls hl hw hS
  unfold b_X2_canGrow_0 at h
  refine lv_iconst (v := 0) C.1 C.2.1 dX2_canGrow_0 (by decide) ?_
  refine lv_istore_n (lv' := [(2, .int 0), (0, .ref (tad θ 0)), (1, .int x1)]) C.1 C.2.1 dX2_canGrow_1 rfl hl (by decide) rfl (fun ls hl => ?_)
  exact t_X2_canGrow_2 C N _ _ _ _ _ h _ _ ls (lv_sub hl [1, 2, 0] rfl) hw hS
def f_X2_canGrow (N : Nat) (x1 : Int32) (M : Mm) : Option (Int32 × Mm) := b_X2_canGrow_0 N x1 M
set_option maxRecDepth 100000 in
theorem c_X2_canGrow (θ : Th) (l : Launch) (N : Nat) {x1 : Int32} {M : Mm} {r : Int32} {M1 : Mm} (h : f_X2_canGrow N x1 M = some (r, M1)) : Met l yX2_canGrow (gws yX2_canGrow cX2_canGrow 3 (some .boolean)) rm_X2_canGrow (va_Pc [.ref (tad θ 0), .int x1] (wU θ M)) (qI θ r M1) 0 0 (tA θ) :=
  k_met (by decide +kernel) (Nat.le_of_ble_eq_true rfl) (fun p e s m args below meth c C ls hl hw => t_X2_canGrow_0 C N _ _ _ _ h _ _ ls (lv_sub hl [0, 1] rfl) hw va_S.rf)
abbrev rm_X2_isBetter : Room := { frames := 1, cells := 0, slots := 0, locals := 24 }
def J_X2_isBetter_45 (θ : Th) (p : Program) (l : Launch) (e : Env) (s : State) (m : MethodId) (args : Array Value) (below : List Frame) (meth : Method) (c : Code) (g : Nat → Nat → Int32 → Mm → Option (Int32 × Mm)) : Prop := ∀ (x1 : Nat) (x2 : Nat) (x4 : Int32) (M : Mm) (r : Int32) (M1 : Mm), g x1 x2 x4 M = some (r, M1) → ∀ (H : Heap) (locs : List Loc) (ls : Array Slot), lv_has ls 5 [(0, .ref (tad θ 0)), (1, .ref (tad θ (22 + x1))), (2, .ref (tad θ (22 + x2))), (4, .int x4)] → wd θ M H → va_S (tA θ) s.heap H locs → W p l e rm_X2_isBetter s m args below meth c H locs 0 0 (MQ below (qI θ r M1) args s 0 0 (tA θ)) (F0 m 45 ls [])
def J_X2_isBetter_0 (θ : Th) (p : Program) (l : Launch) (e : Env) (s : State) (m : MethodId) (args : Array Value) (below : List Frame) (meth : Method) (c : Code) (g : Nat → Nat → Mm → Option (Int32 × Mm)) : Prop := ∀ (x1 : Nat) (x2 : Nat) (M : Mm) (r : Int32) (M1 : Mm), g x1 x2 M = some (r, M1) → ∀ (H : Heap) (locs : List Loc) (ls : Array Slot), lv_has ls 5 [(0, .ref (tad θ 0)), (1, .ref (tad θ (22 + x1))), (2, .ref (tad θ (22 + x2)))] → wd θ M H → va_S (tA θ) s.heap H locs → W p l e rm_X2_isBetter s m args below meth c H locs 0 0 (MQ below (qI θ r M1) args s 0 0 (tA θ)) (F0 m 0 ls [])
def F_X2_isBetter_45 (N : Nat) (k45 : Nat → Nat → Int32 → Mm → Option (Int32 × Mm)) (x1 : Nat) (x2 : Nat) (x4 : Int32) (M : Mm) : Option (Int32 × Mm) :=
  (f_X1_columns N M).bind fun (r51, M51) => (if r51 ≤ x4 then some (0, M51) else (rL M51 x1 x4).bind fun v60 => (rL M51 x2 0).bind fun v63 => (rL M51 x2 x4).bind fun v68 => (rL M51 x1 0).bind fun v71 => (f_J13_compare_74951 N (v60 * v63) (v68 * v71) M51).bind fun (r73, M73) => (if r73 = 0 then k45 x1 x2 (x4 + 1) M73 else (if 0 ≤ r73 then some (0, M73) else some (1, M73))))
abbrev b_X2_isBetter_45 (N : Nat) : Nat → Nat → Int32 → Mm → Option (Int32 × Mm) := lpT (fun _ _ _ _ => none) (F_X2_isBetter_45 N) N
set_option maxRecDepth 100000 in
set_option maxHeartbeats 4000000 in
theorem tF_X2_isBetter_45 {θ : Th} {p : Program} {l : Launch} {e : Env} {s : State} {m : MethodId} {args : Array Value} {below : List Frame} {meth : Method} {c : Code} (C : Cx θ p s m args meth c cX2_isBetter 5 RX2 (some .boolean)) (N : Nat) {k45 : Nat → Nat → Int32 → Mm → Option (Int32 × Mm)} (hk45 : J_X2_isBetter_45 θ p l e s m args below meth c k45) : J_X2_isBetter_45 θ p l e s m args below meth c (F_X2_isBetter_45 N k45) := by
  intro x1 x2 x4 M r M1 h H locs ls hl hw hS
  unfold F_X2_isBetter_45 at h
  refine lv_iload C.1 C.2.1 dX2_isBetter_45 (lv_at hl 3 rfl) ?_
  refine lv_aload_n C.1 C.2.1 dX2_isBetter_47 rfl (lv_at hl 0 rfl) ?_
  refine gf_X2_sheet C hw w_129 dX2_isBetter_48 ?_
  obtain ⟨⟨r51, M51⟩, h51, h⟩ := bind_s h
  dsimp only at h
  refine k_ci (k_runV (As := []) C cf_X1_columns cv_X1_columns w_439 rc1 (c_X1_columns θ l N h51) ⟨rfl, rfl, Nat.le_of_ble_eq_true rfl, Nat.le_of_ble_eq_true rfl⟩ rfl hl.1 rfl (Nat.le_of_ble_eq_true rfl) dX2_isBetter_51 ⟨Nat.zero_le _, Nat.zero_le _⟩ hw) hS (fun H locs hw hS => ?_)
  refine lv_icmp_ge (tgt := 97) C.1 C.2.1 dX2_isBetter_54 (by decide) (fun c54 => ?_) (fun c54 => ?_)
  · have h := it_t c54 h
    refine lv_iconst (v := 0) C.1 C.2.1 dX2_isBetter_97 (by decide) ?_
    cases h
    exact k_retz C hw hS (Or.inl rfl) dX2_isBetter_98
  · have h := it_f c54 h
    refine lv_aload_n C.1 C.2.1 dX2_isBetter_57 rfl (lv_at hl 1 rfl) ?_
    refine lv_iload C.1 C.2.1 dX2_isBetter_58 (lv_at hl 3 rfl) ?_
    obtain ⟨v60, h60, h⟩ := bind_s h
    refine k_lald C hw x1 h60 dX2_isBetter_60 ?_
    refine lv_aload_n C.1 C.2.1 dX2_isBetter_61 rfl (lv_at hl 2 rfl) ?_
    refine lv_iconst (v := 0) C.1 C.2.1 dX2_isBetter_62 (by decide) ?_
    obtain ⟨v63, h63, h⟩ := bind_s h
    refine k_lald C hw x2 h63 dX2_isBetter_63 ?_
    refine lv_lmul C.1 C.2.1 dX2_isBetter_64 ?_
    refine lv_aload_n C.1 C.2.1 dX2_isBetter_65 rfl (lv_at hl 2 rfl) ?_
    refine lv_iload C.1 C.2.1 dX2_isBetter_66 (lv_at hl 3 rfl) ?_
    obtain ⟨v68, h68, h⟩ := bind_s h
    refine k_lald C hw x2 h68 dX2_isBetter_68 ?_
    refine lv_aload_n C.1 C.2.1 dX2_isBetter_69 rfl (lv_at hl 1 rfl) ?_
    refine lv_iconst (v := 0) C.1 C.2.1 dX2_isBetter_70 (by decide) ?_
    obtain ⟨v71, h71, h⟩ := bind_s h
    refine k_lald C hw x1 h71 dX2_isBetter_71 ?_
    refine lv_lmul C.1 C.2.1 dX2_isBetter_72 ?_
    obtain ⟨⟨r73, M73⟩, h73, h⟩ := bind_s h
    dsimp only at h
    refine k_ci (k_runS (As := [.long (v60 * v63), .long (v68 * v71)]) C cf_J13_compare_74951 cs_J13_compare_74951 w_234 (c_J13_compare_74951 θ l N h73) ⟨rfl, rfl, Nat.le_of_ble_eq_true rfl, Nat.le_of_ble_eq_true rfl⟩ rfl hl.1 rfl (Nat.le_of_ble_eq_true rfl) dX2_isBetter_73 ⟨Nat.zero_le _, Nat.zero_le _⟩ hw) hS (fun H locs hw hS => ?_)
    refine lv_istore_n (lv' := [(3, .int r73), (0, .ref (tad θ 0)), (1, .ref (tad θ (22 + x1))), (2, .ref (tad θ (22 + x2))), (4, .int x4)]) C.1 C.2.1 dX2_isBetter_76 rfl hl (by decide) rfl (fun ls hl => ?_)
    refine lv_iload_n C.1 C.2.1 dX2_isBetter_77 rfl (lv_at hl 0 rfl) ?_
    refine lv_if_eq (tgt := 91) C.1 C.2.1 dX2_isBetter_78 (by decide) (fun c78 => ?_) (fun c78 => ?_)
    · have h := it_t c78 h
      refine lv_iinc (v := (x4 + 1)) (lv' := [(4, .int (x4 + 1)), (3, .int r73), (0, .ref (tad θ 0)), (1, .ref (tad θ (22 + x1))), (2, .ref (tad θ (22 + x2)))]) C.1 C.2.1 dX2_isBetter_91 hl (k := 4) rfl rfl (by decide) rfl (fun ls hl => ?_)
      refine lv_goto (tgt := 45) C.1 C.2.1 dX2_isBetter_94 (by decide) ?_
      exact hk45 _ _ _ _ _ _ h _ _ ls (lv_sub hl [2, 3, 4, 0] rfl) hw hS
    · have h := it_f c78 h
      refine lv_iload_n C.1 C.2.1 dX2_isBetter_81 rfl (lv_at hl 0 rfl) ?_
      refine lv_if_ge (tgt := 89) C.1 C.2.1 dX2_isBetter_82 (by decide) (fun c82 => ?_) (fun c82 => ?_)
      · have h := it_t c82 h
        refine lv_iconst (v := 0) C.1 C.2.1 dX2_isBetter_89 (by decide) ?_
        cases h
        exact k_retz C hw hS (Or.inl rfl) dX2_isBetter_90
      · have h := it_f c82 h
        refine lv_iconst (v := 1) C.1 C.2.1 dX2_isBetter_85 (by decide) ?_
        refine lv_goto (tgt := 90) C.1 C.2.1 dX2_isBetter_86 (by decide) ?_
        cases h
        exact k_retz C hw hS (Or.inr rfl) dX2_isBetter_90
theorem t_X2_isBetter_45 {θ : Th} {p : Program} {l : Launch} {e : Env} {s : State} {m : MethodId} {args : Array Value} {below : List Frame} {meth : Method} {c : Code} (C : Cx θ p s m args meth c cX2_isBetter 5 RX2 (some .boolean)) (N : Nat) : J_X2_isBetter_45 θ p l e s m args below meth c (b_X2_isBetter_45 N) := lpT_ind (J := J_X2_isBetter_45 θ p l e s m args below meth c) (fun _ _ _ _ _ _ h => by cases h) (fun k hk => tF_X2_isBetter_45 C N hk) N
def b_X2_isBetter_0 (N : Nat) (x1 : Nat) (x2 : Nat) (M : Mm) : Option (Int32 × Mm) :=
  (f_X1_worth N x1 M).bind fun (r5, M5) => (rL M5 x2 0).bind fun v10 => (f_X1_worth N x2 M5).bind fun (r17, M17) => (rL M17 x1 0).bind fun v22 => (f_J13_compare_74951 N (r5 * v10) (r17 * v22) M17).bind fun (r24, M24) => (if r24 = 0 then b_X2_isBetter_45 N x1 x2 2 M24 else (if r24 ≤ 0 then some (0, M24) else some (1, M24)))
set_option maxRecDepth 100000 in
set_option maxHeartbeats 4000000 in
theorem t_X2_isBetter_0 {θ : Th} {p : Program} {l : Launch} {e : Env} {s : State} {m : MethodId} {args : Array Value} {below : List Frame} {meth : Method} {c : Code} (C : Cx θ p s m args meth c cX2_isBetter 5 RX2 (some .boolean)) (N : Nat) : J_X2_isBetter_0 θ p l e s m args below meth c (b_X2_isBetter_0 N) := by
  intro x1 x2 M r M1 h H locs ls hl hw hS
  unfold b_X2_isBetter_0 at h
  refine lv_aload_n C.1 C.2.1 dX2_isBetter_0 rfl (lv_at hl 0 rfl) ?_
  refine gf_X2_sheet C hw w_129 dX2_isBetter_1 ?_
  refine lv_aload_n C.1 C.2.1 dX2_isBetter_4 rfl (lv_at hl 1 rfl) ?_
  obtain ⟨⟨r5, M5⟩, h5, h⟩ := bind_s h
  dsimp only at h
  refine k_cl (k_runV (As := [.ref (tad θ (22 + x1))]) C cf_X1_worth cv_X1_worth w_211 rc1 (c_X1_worth θ l N h5) ⟨rfl, rfl, Nat.le_of_ble_eq_true rfl, Nat.le_of_ble_eq_true rfl⟩ rfl hl.1 rfl (Nat.le_of_ble_eq_true rfl) dX2_isBetter_5 ⟨Nat.zero_le _, Nat.zero_le _⟩ hw) hS (fun H locs hw hS => ?_)
  refine lv_aload_n C.1 C.2.1 dX2_isBetter_8 rfl (lv_at hl 2 rfl) ?_
  refine lv_iconst (v := 0) C.1 C.2.1 dX2_isBetter_9 (by decide) ?_
  obtain ⟨v10, h10, h⟩ := bind_s h
  refine k_lald C hw x2 h10 dX2_isBetter_10 ?_
  refine lv_lmul C.1 C.2.1 dX2_isBetter_11 ?_
  refine lv_aload_n C.1 C.2.1 dX2_isBetter_12 rfl (lv_at hl 0 rfl) ?_
  refine gf_X2_sheet C hw w_129 dX2_isBetter_13 ?_
  refine lv_aload_n C.1 C.2.1 dX2_isBetter_16 rfl (lv_at hl 2 rfl) ?_
  obtain ⟨⟨r17, M17⟩, h17, h⟩ := bind_s h
  dsimp only at h
  refine k_cl (k_runV (As := [.ref (tad θ (22 + x2))]) C cf_X1_worth cv_X1_worth w_211 rc1 (c_X1_worth θ l N h17) ⟨rfl, rfl, Nat.le_of_ble_eq_true rfl, Nat.le_of_ble_eq_true rfl⟩ rfl hl.1 rfl (Nat.le_of_ble_eq_true rfl) dX2_isBetter_17 ⟨Nat.zero_le _, Nat.zero_le _⟩ hw) hS (fun H locs hw hS => ?_)
  refine lv_aload_n C.1 C.2.1 dX2_isBetter_20 rfl (lv_at hl 1 rfl) ?_
  refine lv_iconst (v := 0) C.1 C.2.1 dX2_isBetter_21 (by decide) ?_
  obtain ⟨v22, h22, h⟩ := bind_s h
  refine k_lald C hw x1 h22 dX2_isBetter_22 ?_
  refine lv_lmul C.1 C.2.1 dX2_isBetter_23 ?_
  obtain ⟨⟨r24, M24⟩, h24, h⟩ := bind_s h
  dsimp only at h
  refine k_ci (k_runS (As := [.long (r5 * v10), .long (r17 * v22)]) C cf_J13_compare_74951 cs_J13_compare_74951 w_234 (c_J13_compare_74951 θ l N h24) ⟨rfl, rfl, Nat.le_of_ble_eq_true rfl, Nat.le_of_ble_eq_true rfl⟩ rfl hl.1 rfl (Nat.le_of_ble_eq_true rfl) dX2_isBetter_24 ⟨Nat.zero_le _, Nat.zero_le _⟩ hw) hS (fun H locs hw hS => ?_)
  refine lv_istore_n (lv' := [(3, .int r24), (0, .ref (tad θ 0)), (1, .ref (tad θ (22 + x1))), (2, .ref (tad θ (22 + x2)))]) C.1 C.2.1 dX2_isBetter_27 rfl hl (by decide) rfl (fun ls hl => ?_)
  refine lv_iload_n C.1 C.2.1 dX2_isBetter_28 rfl (lv_at hl 0 rfl) ?_
  refine lv_if_eq (tgt := 42) C.1 C.2.1 dX2_isBetter_29 (by decide) (fun c29 => ?_) (fun c29 => ?_)
  · have h := it_t c29 h
    refine lv_iconst (v := 2) C.1 C.2.1 dX2_isBetter_42 (by decide) ?_
    refine lv_istore (lv' := [(4, .int 2), (3, .int r24), (0, .ref (tad θ 0)), (1, .ref (tad θ (22 + x1))), (2, .ref (tad θ (22 + x2)))]) C.1 C.2.1 dX2_isBetter_43 hl (by decide) rfl (fun ls hl => ?_)
    exact t_X2_isBetter_45 C N _ _ _ _ _ _ h _ _ ls (lv_sub hl [2, 3, 4, 0] rfl) hw hS
  · have h := it_f c29 h
    refine lv_iload_n C.1 C.2.1 dX2_isBetter_32 rfl (lv_at hl 0 rfl) ?_
    refine lv_if_le (tgt := 40) C.1 C.2.1 dX2_isBetter_33 (by decide) (fun c33 => ?_) (fun c33 => ?_)
    · have h := it_t c33 h
      refine lv_iconst (v := 0) C.1 C.2.1 dX2_isBetter_40 (by decide) ?_
      cases h
      exact k_retz C hw hS (Or.inl rfl) dX2_isBetter_41
    · have h := it_f c33 h
      refine lv_iconst (v := 1) C.1 C.2.1 dX2_isBetter_36 (by decide) ?_
      refine lv_goto (tgt := 41) C.1 C.2.1 dX2_isBetter_37 (by decide) ?_
      cases h
      exact k_retz C hw hS (Or.inr rfl) dX2_isBetter_41
def f_X2_isBetter (N : Nat) (x1 : Nat) (x2 : Nat) (M : Mm) : Option (Int32 × Mm) := b_X2_isBetter_0 N x1 x2 M
set_option maxRecDepth 100000 in
theorem c_X2_isBetter (θ : Th) (l : Launch) (N : Nat) {x1 : Nat} {x2 : Nat} {M : Mm} {r : Int32} {M1 : Mm} (h : f_X2_isBetter N x1 x2 M = some (r, M1)) : Met l yX2_isBetter (gws yX2_isBetter cX2_isBetter 5 (some .boolean)) rm_X2_isBetter (va_Pc [.ref (tad θ 0), .ref (tad θ (22 + x1)), .ref (tad θ (22 + x2))] (wU θ M)) (qI θ r M1) 0 0 (tA θ) :=
  k_met (by decide +kernel) (Nat.le_of_ble_eq_true rfl) (fun p e s m args below meth c C ls hl hw => t_X2_isBetter_0 C N _ _ _ _ _ h _ _ ls (lv_sub hl [0, 1, 2] rfl) hw va_S.rf)
abbrev rm_X2_bestRay : Room := { frames := 2, cells := 0, slots := 0, locals := 48 }
def J_X2_bestRay_12 (θ : Th) (p : Program) (l : Launch) (e : Env) (s : State) (m : MethodId) (args : Array Value) (below : List Frame) (meth : Method) (c : Code) (g : Nat → Int32 → Mm → Option (Nat × Mm)) : Prop := ∀ (x1 : Nat) (x2 : Int32) (M : Mm) (r : Nat) (M1 : Mm), g x1 x2 M = some (r, M1) → ∀ (H : Heap) (locs : List Loc) (ls : Array Slot), lv_has ls 4 [(0, .ref (tad θ 0)), (1, .ref (tad θ (22 + x1))), (2, .int x2)] → wd θ M H → va_S (tA θ) s.heap H locs → W p l e rm_X2_bestRay s m args below meth c H locs 0 0 (MQ below (qR θ r M1) args s 0 0 (tA θ)) (F0 m 12 ls [])
def J_X2_bestRay_0 (θ : Th) (p : Program) (l : Launch) (e : Env) (s : State) (m : MethodId) (args : Array Value) (below : List Frame) (meth : Method) (c : Code) (g : Mm → Option (Nat × Mm)) : Prop := ∀ (M : Mm) (r : Nat) (M1 : Mm), g M = some (r, M1) → ∀ (H : Heap) (locs : List Loc) (ls : Array Slot), lv_has ls 4 [(0, .ref (tad θ 0))] → wd θ M H → va_S (tA θ) s.heap H locs → W p l e rm_X2_bestRay s m args below meth c H locs 0 0 (MQ below (qR θ r M1) args s 0 0 (tA θ)) (F0 m 0 ls [])
def F_X2_bestRay_12 (N : Nat) (k12 : Nat → Int32 → Mm → Option (Nat × Mm)) (x1 : Nat) (x2 : Int32) (M : Mm) : Option (Nat × Mm) :=
  (if (M.1 2) ≤ x2 then some (x1, M) else (rO 2 x2).bind fun v31 => (f_X2_isPoint N v31 M).bind fun (r34, M34) => (if r34 = 0 then k12 x1 (x2 + 1) M34 else (f_X2_isPoint N x1 M34).bind fun (r41, M41) => (if r41 = 0 then k12 v31 (x2 + 1) M41 else (f_X2_isBetter N v31 x1 M41).bind fun (r50, M50) => (if r50 = 0 then k12 x1 (x2 + 1) M50 else k12 v31 (x2 + 1) M50))))
abbrev b_X2_bestRay_12 (N : Nat) : Nat → Int32 → Mm → Option (Nat × Mm) := lpT (fun _ _ _ => none) (F_X2_bestRay_12 N) N
set_option maxRecDepth 100000 in
set_option maxHeartbeats 4000000 in
theorem tF_X2_bestRay_12 {θ : Th} {p : Program} {l : Launch} {e : Env} {s : State} {m : MethodId} {args : Array Value} {below : List Frame} {meth : Method} {c : Code} (C : Cx θ p s m args meth c cX2_bestRay 4 RX2 (some (.array .long))) (N : Nat) {k12 : Nat → Int32 → Mm → Option (Nat × Mm)} (hk12 : J_X2_bestRay_12 θ p l e s m args below meth c k12) : J_X2_bestRay_12 θ p l e s m args below meth c (F_X2_bestRay_12 N k12) := by
  intro x1 x2 M r M1 h H locs ls hl hw hS
  unfold F_X2_bestRay_12 at h
  refine lv_iload_n C.1 C.2.1 dX2_bestRay_12 rfl (lv_at hl 2 rfl) ?_
  refine lv_aload_n C.1 C.2.1 dX2_bestRay_13 rfl (lv_at hl 0 rfl) ?_
  refine gf_X2_cone C hw w_130 dX2_bestRay_14 ?_
  refine gf_X0_count C hw w_111 dX2_bestRay_17 ?_
  refine lv_icmp_ge (tgt := 64) C.1 C.2.1 dX2_bestRay_20 (by decide) (fun c20 => ?_) (fun c20 => ?_)
  · have h := it_t c20 h
    refine lv_aload_n C.1 C.2.1 dX2_bestRay_64 rfl (lv_at hl 1 rfl) ?_
    cases h
    exact k_reta C hw hS dX2_bestRay_65
  · have h := it_f c20 h
    refine lv_aload_n C.1 C.2.1 dX2_bestRay_23 rfl (lv_at hl 0 rfl) ?_
    refine gf_X2_cone C hw w_130 dX2_bestRay_24 ?_
    refine gf_X0_rays C hw w_109 dX2_bestRay_27 ?_
    refine lv_iload_n C.1 C.2.1 dX2_bestRay_30 rfl (lv_at hl 2 rfl) ?_
    obtain ⟨v31, h31, h⟩ := bind_s h
    refine k_aald C hw 2 (by decide) h31 dX2_bestRay_31 ?_
    refine lv_astore_n (lv' := [(3, .ref (tad θ (22 + v31))), (0, .ref (tad θ 0)), (1, .ref (tad θ (22 + x1))), (2, .int x2)]) C.1 C.2.1 dX2_bestRay_32 rfl hl (by decide) rfl (fun ls hl => ?_)
    refine lv_aload_n C.1 C.2.1 dX2_bestRay_33 rfl (lv_at hl 0 rfl) ?_
    obtain ⟨⟨r34, M34⟩, h34, h⟩ := bind_s h
    dsimp only at h
    refine k_ci (k_runS (As := [.ref (tad θ (22 + v31))]) C cf_X2_isPoint cs_X2_isPoint w_201 (c_X2_isPoint θ l N h34) ⟨rfl, rfl, Nat.le_of_ble_eq_true rfl, Nat.le_of_ble_eq_true rfl⟩ rfl hl.1 rfl (Nat.le_of_ble_eq_true rfl) dX2_bestRay_34 ⟨Nat.zero_le _, Nat.zero_le _⟩ hw) hS (fun H locs hw hS => ?_)
    refine lv_if_eq (tgt := 58) C.1 C.2.1 dX2_bestRay_37 (by decide) (fun c37 => ?_) (fun c37 => ?_)
    · have h := it_t c37 h
      refine lv_iinc (v := (x2 + 1)) (lv' := [(2, .int (x2 + 1)), (3, .ref (tad θ (22 + v31))), (0, .ref (tad θ 0)), (1, .ref (tad θ (22 + x1)))]) C.1 C.2.1 dX2_bestRay_58 hl (k := 3) rfl rfl (by decide) rfl (fun ls hl => ?_)
      refine lv_goto (tgt := 12) C.1 C.2.1 dX2_bestRay_61 (by decide) ?_
      exact hk12 _ _ _ _ _ h _ _ ls (lv_sub hl [2, 3, 0] rfl) hw hS
    · have h := it_f c37 h
      refine lv_aload_n C.1 C.2.1 dX2_bestRay_40 rfl (lv_at hl 2 rfl) ?_
      obtain ⟨⟨r41, M41⟩, h41, h⟩ := bind_s h
      dsimp only at h
      refine k_ci (k_runS (As := [.ref (tad θ (22 + x1))]) C cf_X2_isPoint cs_X2_isPoint w_201 (c_X2_isPoint θ l N h41) ⟨rfl, rfl, Nat.le_of_ble_eq_true rfl, Nat.le_of_ble_eq_true rfl⟩ rfl hl.1 rfl (Nat.le_of_ble_eq_true rfl) dX2_bestRay_41 ⟨Nat.zero_le _, Nat.zero_le _⟩ hw) hS (fun H locs hw hS => ?_)
      refine lv_if_eq (tgt := 56) C.1 C.2.1 dX2_bestRay_44 (by decide) (fun c44 => ?_) (fun c44 => ?_)
      · have h := it_t c44 h
        refine lv_aload_n C.1 C.2.1 dX2_bestRay_56 rfl (lv_at hl 0 rfl) ?_
        refine lv_astore_n (lv' := [(1, .ref (tad θ (22 + v31))), (3, .ref (tad θ (22 + v31))), (0, .ref (tad θ 0)), (2, .int x2)]) C.1 C.2.1 dX2_bestRay_57 rfl hl (by decide) rfl (fun ls hl => ?_)
        refine lv_iinc (v := (x2 + 1)) (lv' := [(2, .int (x2 + 1)), (1, .ref (tad θ (22 + v31))), (3, .ref (tad θ (22 + v31))), (0, .ref (tad θ 0))]) C.1 C.2.1 dX2_bestRay_58 hl (k := 3) rfl rfl (by decide) rfl (fun ls hl => ?_)
        refine lv_goto (tgt := 12) C.1 C.2.1 dX2_bestRay_61 (by decide) ?_
        exact hk12 _ _ _ _ _ h _ _ ls (lv_sub hl [3, 1, 0] rfl) hw hS
      · have h := it_f c44 h
        refine lv_aload_n C.1 C.2.1 dX2_bestRay_47 rfl (lv_at hl 1 rfl) ?_
        refine lv_aload_n C.1 C.2.1 dX2_bestRay_48 rfl (lv_at hl 0 rfl) ?_
        refine lv_aload_n C.1 C.2.1 dX2_bestRay_49 rfl (lv_at hl 2 rfl) ?_
        obtain ⟨⟨r50, M50⟩, h50, h⟩ := bind_s h
        dsimp only at h
        refine k_ci (k_runV (As := [.ref (tad θ (22 + v31)), .ref (tad θ (22 + x1))]) C cf_X2_isBetter cv_X2_isBetter w_435 rc0 (c_X2_isBetter θ l N h50) ⟨rfl, rfl, Nat.le_of_ble_eq_true rfl, Nat.le_of_ble_eq_true rfl⟩ rfl hl.1 rfl (Nat.le_of_ble_eq_true rfl) dX2_bestRay_50 ⟨Nat.zero_le _, Nat.zero_le _⟩ hw) hS (fun H locs hw hS => ?_)
        refine lv_if_eq (tgt := 58) C.1 C.2.1 dX2_bestRay_53 (by decide) (fun c53 => ?_) (fun c53 => ?_)
        · have h := it_t c53 h
          refine lv_iinc (v := (x2 + 1)) (lv' := [(2, .int (x2 + 1)), (3, .ref (tad θ (22 + v31))), (0, .ref (tad θ 0)), (1, .ref (tad θ (22 + x1)))]) C.1 C.2.1 dX2_bestRay_58 hl (k := 3) rfl rfl (by decide) rfl (fun ls hl => ?_)
          refine lv_goto (tgt := 12) C.1 C.2.1 dX2_bestRay_61 (by decide) ?_
          exact hk12 _ _ _ _ _ h _ _ ls (lv_sub hl [2, 3, 0] rfl) hw hS
        · have h := it_f c53 h
          refine lv_aload_n C.1 C.2.1 dX2_bestRay_56 rfl (lv_at hl 0 rfl) ?_
          refine lv_astore_n (lv' := [(1, .ref (tad θ (22 + v31))), (3, .ref (tad θ (22 + v31))), (0, .ref (tad θ 0)), (2, .int x2)]) C.1 C.2.1 dX2_bestRay_57 rfl hl (by decide) rfl (fun ls hl => ?_)
          refine lv_iinc (v := (x2 + 1)) (lv' := [(2, .int (x2 + 1)), (1, .ref (tad θ (22 + v31))), (3, .ref (tad θ (22 + v31))), (0, .ref (tad θ 0))]) C.1 C.2.1 dX2_bestRay_58 hl (k := 3) rfl rfl (by decide) rfl (fun ls hl => ?_)
          refine lv_goto (tgt := 12) C.1 C.2.1 dX2_bestRay_61 (by decide) ?_
          exact hk12 _ _ _ _ _ h _ _ ls (lv_sub hl [3, 1, 0] rfl) hw hS
theorem t_X2_bestRay_12 {θ : Th} {p : Program} {l : Launch} {e : Env} {s : State} {m : MethodId} {args : Array Value} {below : List Frame} {meth : Method} {c : Code} (C : Cx θ p s m args meth c cX2_bestRay 4 RX2 (some (.array .long))) (N : Nat) : J_X2_bestRay_12 θ p l e s m args below meth c (b_X2_bestRay_12 N) := lpT_ind (J := J_X2_bestRay_12 θ p l e s m args below meth c) (fun _ _ _ _ _ h => by cases h) (fun k hk => tF_X2_bestRay_12 C N hk) N
def b_X2_bestRay_0 (N : Nat) (M : Mm) : Option (Nat × Mm) :=
  (rO 2 0).bind fun v8 => b_X2_bestRay_12 N v8 1 M
set_option maxRecDepth 100000 in
set_option maxHeartbeats 4000000 in
theorem t_X2_bestRay_0 {θ : Th} {p : Program} {l : Launch} {e : Env} {s : State} {m : MethodId} {args : Array Value} {below : List Frame} {meth : Method} {c : Code} (C : Cx θ p s m args meth c cX2_bestRay 4 RX2 (some (.array .long))) (N : Nat) : J_X2_bestRay_0 θ p l e s m args below meth c (b_X2_bestRay_0 N) := by
  intro M r M1 h H locs ls hl hw hS
  unfold b_X2_bestRay_0 at h
  refine lv_aload_n C.1 C.2.1 dX2_bestRay_0 rfl (lv_at hl 0 rfl) ?_
  refine gf_X2_cone C hw w_130 dX2_bestRay_1 ?_
  refine gf_X0_rays C hw w_109 dX2_bestRay_4 ?_
  refine lv_iconst (v := 0) C.1 C.2.1 dX2_bestRay_7 (by decide) ?_
  obtain ⟨v8, h8, h⟩ := bind_s h
  refine k_aald C hw 2 (by decide) h8 dX2_bestRay_8 ?_
  refine lv_astore_n (lv' := [(1, .ref (tad θ (22 + v8))), (0, .ref (tad θ 0))]) C.1 C.2.1 dX2_bestRay_9 rfl hl (by decide) rfl (fun ls hl => ?_)
  refine lv_iconst (v := 1) C.1 C.2.1 dX2_bestRay_10 (by decide) ?_
  refine lv_istore_n (lv' := [(2, .int 1), (1, .ref (tad θ (22 + v8))), (0, .ref (tad θ 0))]) C.1 C.2.1 dX2_bestRay_11 rfl hl (by decide) rfl (fun ls hl => ?_)
  exact t_X2_bestRay_12 C N _ _ _ _ _ h _ _ ls (lv_sub hl [2, 1, 0] rfl) hw hS
def f_X2_bestRay (N : Nat) (M : Mm) : Option (Nat × Mm) := b_X2_bestRay_0 N M
set_option maxRecDepth 100000 in
theorem c_X2_bestRay (θ : Th) (l : Launch) (N : Nat) {M : Mm} {r : Nat} {M1 : Mm} (h : f_X2_bestRay N M = some (r, M1)) : Met l yX2_bestRay (gws yX2_bestRay cX2_bestRay 4 (some (.array .long))) rm_X2_bestRay (va_Pc [.ref (tad θ 0)] (wU θ M)) (qR θ r M1) 0 0 (tA θ) :=
  k_met (by decide +kernel) (Nat.le_of_ble_eq_true rfl) (fun p e s m args below meth c C ls hl hw => t_X2_bestRay_0 C N _ _ _ h _ _ ls (lv_sub hl [0] rfl) hw va_S.rf)
abbrev rm_X2_isFarther : Room := { frames := 1, cells := 0, slots := 0, locals := 23 }
def J_X2_isFarther_0 (θ : Th) (p : Program) (l : Launch) (e : Env) (s : State) (m : MethodId) (args : Array Value) (below : List Frame) (meth : Method) (c : Code) (g : Nat → Nat → Int32 → Int32 → Mm → Option (Int32 × Mm)) : Prop := ∀ (x0 : Nat) (x1 : Nat) (x2 : Int32) (x3 : Int32) (M : Mm) (r : Int32) (M1 : Mm), g x0 x1 x2 x3 M = some (r, M1) → ∀ (H : Heap) (locs : List Loc) (ls : Array Slot), lv_has ls 5 [(0, .ref (tad θ (22 + x0))), (1, .ref (tad θ (22 + x1))), (2, .int x2), (3, .int x3)] → wd θ M H → va_S (tA θ) s.heap H locs → W p l e rm_X2_isFarther s m args below meth c H locs 0 0 (MQ below (qI θ r M1) args s 0 0 (tA θ)) (F0 m 0 ls [])
def b_X2_isFarther_0 (N : Nat) (x0 : Nat) (x1 : Nat) (x2 : Int32) (x3 : Int32) (M : Mm) : Option (Int32 × Mm) :=
  (rL M x0 (2 + x2)).bind fun v4 => (rL M x1 0).bind fun v7 => (rL M x1 (2 + x2)).bind fun v13 => (rL M x0 0).bind fun v16 => (f_J13_compare_74951 N (v4 * v7) (v13 * v16) M).bind fun (r18, M18) => (if x3 = 0 then (if 0 ≤ r18 then some (0, M18) else some (1, M18)) else (if r18 ≤ 0 then some (0, M18) else some (1, M18)))
set_option maxRecDepth 100000 in
set_option maxHeartbeats 4000000 in
theorem t_X2_isFarther_0 {θ : Th} {p : Program} {l : Launch} {e : Env} {s : State} {m : MethodId} {args : Array Value} {below : List Frame} {meth : Method} {c : Code} (C : Cx θ p s m args meth c cX2_isFarther 5 RX2 (some .boolean)) (N : Nat) : J_X2_isFarther_0 θ p l e s m args below meth c (b_X2_isFarther_0 N) := by
  intro x0 x1 x2 x3 M r M1 h H locs ls hl hw hS
  unfold b_X2_isFarther_0 at h
  refine lv_aload_n C.1 C.2.1 dX2_isFarther_0 rfl (lv_at hl 0 rfl) ?_
  refine lv_iconst (v := 2) C.1 C.2.1 dX2_isFarther_1 (by decide) ?_
  refine lv_iload_n C.1 C.2.1 dX2_isFarther_2 rfl (lv_at hl 2 rfl) ?_
  refine lv_iadd C.1 C.2.1 dX2_isFarther_3 ?_
  obtain ⟨v4, h4, h⟩ := bind_s h
  refine k_lald C hw x0 h4 dX2_isFarther_4 ?_
  refine lv_aload_n C.1 C.2.1 dX2_isFarther_5 rfl (lv_at hl 1 rfl) ?_
  refine lv_iconst (v := 0) C.1 C.2.1 dX2_isFarther_6 (by decide) ?_
  obtain ⟨v7, h7, h⟩ := bind_s h
  refine k_lald C hw x1 h7 dX2_isFarther_7 ?_
  refine lv_lmul C.1 C.2.1 dX2_isFarther_8 ?_
  refine lv_aload_n C.1 C.2.1 dX2_isFarther_9 rfl (lv_at hl 1 rfl) ?_
  refine lv_iconst (v := 2) C.1 C.2.1 dX2_isFarther_10 (by decide) ?_
  refine lv_iload_n C.1 C.2.1 dX2_isFarther_11 rfl (lv_at hl 2 rfl) ?_
  refine lv_iadd C.1 C.2.1 dX2_isFarther_12 ?_
  obtain ⟨v13, h13, h⟩ := bind_s h
  refine k_lald C hw x1 h13 dX2_isFarther_13 ?_
  refine lv_aload_n C.1 C.2.1 dX2_isFarther_14 rfl (lv_at hl 0 rfl) ?_
  refine lv_iconst (v := 0) C.1 C.2.1 dX2_isFarther_15 (by decide) ?_
  obtain ⟨v16, h16, h⟩ := bind_s h
  refine k_lald C hw x0 h16 dX2_isFarther_16 ?_
  refine lv_lmul C.1 C.2.1 dX2_isFarther_17 ?_
  obtain ⟨⟨r18, M18⟩, h18, h⟩ := bind_s h
  dsimp only at h
  refine k_ci (k_runS (As := [.long (v4 * v7), .long (v13 * v16)]) C cf_J13_compare_74951 cs_J13_compare_74951 w_234 (c_J13_compare_74951 θ l N h18) ⟨rfl, rfl, Nat.le_of_ble_eq_true rfl, Nat.le_of_ble_eq_true rfl⟩ rfl hl.1 rfl (Nat.le_of_ble_eq_true rfl) dX2_isFarther_18 ⟨Nat.zero_le _, Nat.zero_le _⟩ hw) hS (fun H locs hw hS => ?_)
  refine lv_istore (lv' := [(4, .int r18), (0, .ref (tad θ (22 + x0))), (1, .ref (tad θ (22 + x1))), (2, .int x2), (3, .int x3)]) C.1 C.2.1 dX2_isFarther_21 hl (by decide) rfl (fun ls hl => ?_)
  refine lv_iload_n C.1 C.2.1 dX2_isFarther_23 rfl (lv_at hl 4 rfl) ?_
  refine lv_if_eq (tgt := 40) C.1 C.2.1 dX2_isFarther_24 (by decide) (fun c24 => ?_) (fun c24 => ?_)
  · have h := it_t c24 h
    refine lv_iload C.1 C.2.1 dX2_isFarther_40 (lv_at hl 0 rfl) ?_
    refine lv_if_ge (tgt := 49) C.1 C.2.1 dX2_isFarther_42 (by decide) (fun c42 => ?_) (fun c42 => ?_)
    · have h := it_t c42 h
      refine lv_iconst (v := 0) C.1 C.2.1 dX2_isFarther_49 (by decide) ?_
      cases h
      exact k_retz C hw hS (Or.inl rfl) dX2_isFarther_50
    · have h := it_f c42 h
      refine lv_iconst (v := 1) C.1 C.2.1 dX2_isFarther_45 (by decide) ?_
      refine lv_goto (tgt := 50) C.1 C.2.1 dX2_isFarther_46 (by decide) ?_
      cases h
      exact k_retz C hw hS (Or.inr rfl) dX2_isFarther_50
  · have h := it_f c24 h
    refine lv_iload C.1 C.2.1 dX2_isFarther_27 (lv_at hl 0 rfl) ?_
    refine lv_if_le (tgt := 36) C.1 C.2.1 dX2_isFarther_29 (by decide) (fun c29 => ?_) (fun c29 => ?_)
    · have h := it_t c29 h
      refine lv_iconst (v := 0) C.1 C.2.1 dX2_isFarther_36 (by decide) ?_
      refine lv_goto (tgt := 50) C.1 C.2.1 dX2_isFarther_37 (by decide) ?_
      cases h
      exact k_retz C hw hS (Or.inl rfl) dX2_isFarther_50
    · have h := it_f c29 h
      refine lv_iconst (v := 1) C.1 C.2.1 dX2_isFarther_32 (by decide) ?_
      refine lv_goto (tgt := 50) C.1 C.2.1 dX2_isFarther_33 (by decide) ?_
      cases h
      exact k_retz C hw hS (Or.inr rfl) dX2_isFarther_50
def f_X2_isFarther (N : Nat) (x0 : Nat) (x1 : Nat) (x2 : Int32) (x3 : Int32) (M : Mm) : Option (Int32 × Mm) := b_X2_isFarther_0 N x0 x1 x2 x3 M
set_option maxRecDepth 100000 in
theorem c_X2_isFarther (θ : Th) (l : Launch) (N : Nat) {x0 : Nat} {x1 : Nat} {x2 : Int32} {x3 : Int32} {M : Mm} {r : Int32} {M1 : Mm} (h : f_X2_isFarther N x0 x1 x2 x3 M = some (r, M1)) : Met l yX2_isFarther (gws yX2_isFarther cX2_isFarther 5 (some .boolean)) rm_X2_isFarther (va_Pc [.ref (tad θ (22 + x0)), .ref (tad θ (22 + x1)), .int x2, .int x3] (wU θ M)) (qI θ r M1) 0 0 (tA θ) :=
  k_met (by decide +kernel) (Nat.le_of_ble_eq_true rfl) (fun p e s m args below meth c C ls hl hw => t_X2_isFarther_0 C N _ _ _ _ _ _ _ h _ _ ls (lv_sub hl [0, 1, 2, 3] rfl) hw va_S.rf)
abbrev rm_X2_extremeRay : Room := { frames := 2, cells := 0, slots := 0, locals := 47 }
def J_X2_extremeRay_13 (θ : Th) (p : Program) (l : Launch) (e : Env) (s : State) (m : MethodId) (args : Array Value) (below : List Frame) (meth : Method) (c : Code) (g : Int32 → Int32 → Nat → Int32 → Mm → Option (Nat × Mm)) : Prop := ∀ (x1 : Int32) (x2 : Int32) (x3 : Nat) (x4 : Int32) (M : Mm) (r : Nat) (M1 : Mm), g x1 x2 x3 x4 M = some (r, M1) → ∀ (H : Heap) (locs : List Loc) (ls : Array Slot), lv_has ls 6 [(0, .ref (tad θ 0)), (1, .int x1), (2, .int x2), (3, .ref (tad θ (22 + x3))), (4, .int x4)] → wd θ M H → va_S (tA θ) s.heap H locs → W p l e rm_X2_extremeRay s m args below meth c H locs 0 0 (MQ below (qR θ r M1) args s 0 0 (tA θ)) (F0 m 13 ls [])
def J_X2_extremeRay_0 (θ : Th) (p : Program) (l : Launch) (e : Env) (s : State) (m : MethodId) (args : Array Value) (below : List Frame) (meth : Method) (c : Code) (g : Int32 → Int32 → Mm → Option (Nat × Mm)) : Prop := ∀ (x1 : Int32) (x2 : Int32) (M : Mm) (r : Nat) (M1 : Mm), g x1 x2 M = some (r, M1) → ∀ (H : Heap) (locs : List Loc) (ls : Array Slot), lv_has ls 6 [(0, .ref (tad θ 0)), (1, .int x1), (2, .int x2)] → wd θ M H → va_S (tA θ) s.heap H locs → W p l e rm_X2_extremeRay s m args below meth c H locs 0 0 (MQ below (qR θ r M1) args s 0 0 (tA θ)) (F0 m 0 ls [])
def F_X2_extremeRay_13 (N : Nat) (k13 : Int32 → Int32 → Nat → Int32 → Mm → Option (Nat × Mm)) (x1 : Int32) (x2 : Int32) (x3 : Nat) (x4 : Int32) (M : Mm) : Option (Nat × Mm) :=
  (if (M.1 2) ≤ x4 then some (x3, M) else (rO 2 x4).bind fun v34 => (f_X2_isPoint N v34 M).bind fun (r39, M39) => (if r39 = 0 then k13 x1 x2 x3 (x4 + 1) M39 else (f_X2_isPoint N x3 M39).bind fun (r46, M46) => (if r46 = 0 then k13 x1 x2 v34 (x4 + 1) M46 else (f_X2_isFarther N v34 x3 x1 x2 M46).bind fun (r57, M57) => (if r57 = 0 then k13 x1 x2 x3 (x4 + 1) M57 else k13 x1 x2 v34 (x4 + 1) M57))))
abbrev b_X2_extremeRay_13 (N : Nat) : Int32 → Int32 → Nat → Int32 → Mm → Option (Nat × Mm) := lpT (fun _ _ _ _ _ => none) (F_X2_extremeRay_13 N) N
set_option maxRecDepth 100000 in
set_option maxHeartbeats 4000000 in
theorem tF_X2_extremeRay_13 {θ : Th} {p : Program} {l : Launch} {e : Env} {s : State} {m : MethodId} {args : Array Value} {below : List Frame} {meth : Method} {c : Code} (C : Cx θ p s m args meth c cX2_extremeRay 6 RX2 (some (.array .long))) (N : Nat) {k13 : Int32 → Int32 → Nat → Int32 → Mm → Option (Nat × Mm)} (hk13 : J_X2_extremeRay_13 θ p l e s m args below meth c k13) : J_X2_extremeRay_13 θ p l e s m args below meth c (F_X2_extremeRay_13 N k13) := by
  intro x1 x2 x3 x4 M r M1 h H locs ls hl hw hS
  unfold F_X2_extremeRay_13 at h
  refine lv_iload C.1 C.2.1 dX2_extremeRay_13 (lv_at hl 4 rfl) ?_
  refine lv_aload_n C.1 C.2.1 dX2_extremeRay_15 rfl (lv_at hl 0 rfl) ?_
  refine gf_X2_cone C hw w_130 dX2_extremeRay_16 ?_
  refine gf_X0_count C hw w_111 dX2_extremeRay_19 ?_
  refine lv_icmp_ge (tgt := 72) C.1 C.2.1 dX2_extremeRay_22 (by decide) (fun c22 => ?_) (fun c22 => ?_)
  · have h := it_t c22 h
    refine lv_aload_n C.1 C.2.1 dX2_extremeRay_72 rfl (lv_at hl 3 rfl) ?_
    cases h
    exact k_reta C hw hS dX2_extremeRay_73
  · have h := it_f c22 h
    refine lv_aload_n C.1 C.2.1 dX2_extremeRay_25 rfl (lv_at hl 0 rfl) ?_
    refine gf_X2_cone C hw w_130 dX2_extremeRay_26 ?_
    refine gf_X0_rays C hw w_109 dX2_extremeRay_29 ?_
    refine lv_iload C.1 C.2.1 dX2_extremeRay_32 (lv_at hl 4 rfl) ?_
    obtain ⟨v34, h34, h⟩ := bind_s h
    refine k_aald C hw 2 (by decide) h34 dX2_extremeRay_34 ?_
    refine lv_astore (lv' := [(5, .ref (tad θ (22 + v34))), (0, .ref (tad θ 0)), (1, .int x1), (2, .int x2), (3, .ref (tad θ (22 + x3))), (4, .int x4)]) C.1 C.2.1 dX2_extremeRay_35 hl (by decide) rfl (fun ls hl => ?_)
    refine lv_aload C.1 C.2.1 dX2_extremeRay_37 (lv_at hl 0 rfl) ?_
    obtain ⟨⟨r39, M39⟩, h39, h⟩ := bind_s h
    dsimp only at h
    refine k_ci (k_runS (As := [.ref (tad θ (22 + v34))]) C cf_X2_isPoint cs_X2_isPoint w_201 (c_X2_isPoint θ l N h39) ⟨rfl, rfl, Nat.le_of_ble_eq_true rfl, Nat.le_of_ble_eq_true rfl⟩ rfl hl.1 rfl (Nat.le_of_ble_eq_true rfl) dX2_extremeRay_39 ⟨Nat.zero_le _, Nat.zero_le _⟩ hw) hS (fun H locs hw hS => ?_)
    refine lv_if_eq (tgt := 66) C.1 C.2.1 dX2_extremeRay_42 (by decide) (fun c42 => ?_) (fun c42 => ?_)
    · have h := it_t c42 h
      refine lv_iinc (v := (x4 + 1)) (lv' := [(4, .int (x4 + 1)), (5, .ref (tad θ (22 + v34))), (0, .ref (tad θ 0)), (1, .int x1), (2, .int x2), (3, .ref (tad θ (22 + x3)))]) C.1 C.2.1 dX2_extremeRay_66 hl (k := 5) rfl rfl (by decide) rfl (fun ls hl => ?_)
      refine lv_goto (tgt := 13) C.1 C.2.1 dX2_extremeRay_69 (by decide) ?_
      exact hk13 _ _ _ _ _ _ _ h _ _ ls (lv_sub hl [2, 3, 4, 5, 0] rfl) hw hS
    · have h := it_f c42 h
      refine lv_aload_n C.1 C.2.1 dX2_extremeRay_45 rfl (lv_at hl 4 rfl) ?_
      obtain ⟨⟨r46, M46⟩, h46, h⟩ := bind_s h
      dsimp only at h
      refine k_ci (k_runS (As := [.ref (tad θ (22 + x3))]) C cf_X2_isPoint cs_X2_isPoint w_201 (c_X2_isPoint θ l N h46) ⟨rfl, rfl, Nat.le_of_ble_eq_true rfl, Nat.le_of_ble_eq_true rfl⟩ rfl hl.1 rfl (Nat.le_of_ble_eq_true rfl) dX2_extremeRay_46 ⟨Nat.zero_le _, Nat.zero_le _⟩ hw) hS (fun H locs hw hS => ?_)
      refine lv_if_eq (tgt := 63) C.1 C.2.1 dX2_extremeRay_49 (by decide) (fun c49 => ?_) (fun c49 => ?_)
      · have h := it_t c49 h
        refine lv_aload C.1 C.2.1 dX2_extremeRay_63 (lv_at hl 0 rfl) ?_
        refine lv_astore_n (lv' := [(3, .ref (tad θ (22 + v34))), (5, .ref (tad θ (22 + v34))), (0, .ref (tad θ 0)), (1, .int x1), (2, .int x2), (4, .int x4)]) C.1 C.2.1 dX2_extremeRay_65 rfl hl (by decide) rfl (fun ls hl => ?_)
        refine lv_iinc (v := (x4 + 1)) (lv' := [(4, .int (x4 + 1)), (3, .ref (tad θ (22 + v34))), (5, .ref (tad θ (22 + v34))), (0, .ref (tad θ 0)), (1, .int x1), (2, .int x2)]) C.1 C.2.1 dX2_extremeRay_66 hl (k := 5) rfl rfl (by decide) rfl (fun ls hl => ?_)
        refine lv_goto (tgt := 13) C.1 C.2.1 dX2_extremeRay_69 (by decide) ?_
        exact hk13 _ _ _ _ _ _ _ h _ _ ls (lv_sub hl [3, 4, 5, 1, 0] rfl) hw hS
      · have h := it_f c49 h
        refine lv_aload C.1 C.2.1 dX2_extremeRay_52 (lv_at hl 0 rfl) ?_
        refine lv_aload_n C.1 C.2.1 dX2_extremeRay_54 rfl (lv_at hl 4 rfl) ?_
        refine lv_iload_n C.1 C.2.1 dX2_extremeRay_55 rfl (lv_at hl 2 rfl) ?_
        refine lv_iload_n C.1 C.2.1 dX2_extremeRay_56 rfl (lv_at hl 3 rfl) ?_
        obtain ⟨⟨r57, M57⟩, h57, h⟩ := bind_s h
        dsimp only at h
        refine k_ci (k_runS (As := [.ref (tad θ (22 + v34)), .ref (tad θ (22 + x3)), .int x1, .int x2]) C cf_X2_isFarther cs_X2_isFarther w_490 (c_X2_isFarther θ l N h57) ⟨rfl, rfl, Nat.le_of_ble_eq_true rfl, Nat.le_of_ble_eq_true rfl⟩ rfl hl.1 rfl (Nat.le_of_ble_eq_true rfl) dX2_extremeRay_57 ⟨Nat.zero_le _, Nat.zero_le _⟩ hw) hS (fun H locs hw hS => ?_)
        refine lv_if_eq (tgt := 66) C.1 C.2.1 dX2_extremeRay_60 (by decide) (fun c60 => ?_) (fun c60 => ?_)
        · have h := it_t c60 h
          refine lv_iinc (v := (x4 + 1)) (lv' := [(4, .int (x4 + 1)), (5, .ref (tad θ (22 + v34))), (0, .ref (tad θ 0)), (1, .int x1), (2, .int x2), (3, .ref (tad θ (22 + x3)))]) C.1 C.2.1 dX2_extremeRay_66 hl (k := 5) rfl rfl (by decide) rfl (fun ls hl => ?_)
          refine lv_goto (tgt := 13) C.1 C.2.1 dX2_extremeRay_69 (by decide) ?_
          exact hk13 _ _ _ _ _ _ _ h _ _ ls (lv_sub hl [2, 3, 4, 5, 0] rfl) hw hS
        · have h := it_f c60 h
          refine lv_aload C.1 C.2.1 dX2_extremeRay_63 (lv_at hl 0 rfl) ?_
          refine lv_astore_n (lv' := [(3, .ref (tad θ (22 + v34))), (5, .ref (tad θ (22 + v34))), (0, .ref (tad θ 0)), (1, .int x1), (2, .int x2), (4, .int x4)]) C.1 C.2.1 dX2_extremeRay_65 rfl hl (by decide) rfl (fun ls hl => ?_)
          refine lv_iinc (v := (x4 + 1)) (lv' := [(4, .int (x4 + 1)), (3, .ref (tad θ (22 + v34))), (5, .ref (tad θ (22 + v34))), (0, .ref (tad θ 0)), (1, .int x1), (2, .int x2)]) C.1 C.2.1 dX2_extremeRay_66 hl (k := 5) rfl rfl (by decide) rfl (fun ls hl => ?_)
          refine lv_goto (tgt := 13) C.1 C.2.1 dX2_extremeRay_69 (by decide) ?_
          exact hk13 _ _ _ _ _ _ _ h _ _ ls (lv_sub hl [3, 4, 5, 1, 0] rfl) hw hS
theorem t_X2_extremeRay_13 {θ : Th} {p : Program} {l : Launch} {e : Env} {s : State} {m : MethodId} {args : Array Value} {below : List Frame} {meth : Method} {c : Code} (C : Cx θ p s m args meth c cX2_extremeRay 6 RX2 (some (.array .long))) (N : Nat) : J_X2_extremeRay_13 θ p l e s m args below meth c (b_X2_extremeRay_13 N) := lpT_ind (J := J_X2_extremeRay_13 θ p l e s m args below meth c) (fun _ _ _ _ _ _ _ h => by cases h) (fun k hk => tF_X2_extremeRay_13 C N hk) N
def b_X2_extremeRay_0 (N : Nat) (x1 : Int32) (x2 : Int32) (M : Mm) : Option (Nat × Mm) :=
  (rO 2 0).bind fun v8 => b_X2_extremeRay_13 N x1 x2 v8 1 M
set_option maxRecDepth 100000 in
set_option maxHeartbeats 4000000 in
theorem t_X2_extremeRay_0 {θ : Th} {p : Program} {l : Launch} {e : Env} {s : State} {m : MethodId} {args : Array Value} {below : List Frame} {meth : Method} {c : Code} (C : Cx θ p s m args meth c cX2_extremeRay 6 RX2 (some (.array .long))) (N : Nat) : J_X2_extremeRay_0 θ p l e s m args below meth c (b_X2_extremeRay_0 N) := by
  intro x1 x2 M r M1 h H locs ls hl hw hS
  unfold b_X2_extremeRay_0 at h
  refine lv_aload_n C.1 C.2.1 dX2_extremeRay_0 rfl (lv_at hl 0 rfl) ?_
  refine gf_X2_cone C hw w_130 dX2_extremeRay_1 ?_
  refine gf_X0_rays C hw w_109 dX2_extremeRay_4 ?_
  refine lv_iconst (v := 0) C.1 C.2.1 dX2_extremeRay_7 (by decide) ?_
  obtain ⟨v8, h8, h⟩ := bind_s h
  refine k_aald C hw 2 (by decide) h8 dX2_extremeRay_8 ?_
  refine lv_astore_n (lv' := [(3, .ref (tad θ (22 + v8))), (0, .ref (tad θ 0)), (1, .int x1), (2, .int x2)]) C.1 C.2.1 dX2_extremeRay_9 rfl hl (by decide) rfl (fun ls hl => ?_)
  refine lv_iconst (v := 1) C.1 C.2.1 dX2_extremeRay_10 (by decide) ?_
  refine lv_istore (lv' := [(4, .int 1), (3, .ref (tad θ (22 + v8))), (0, .ref (tad θ 0)), (1, .int x1), (2, .int x2)]) C.1 C.2.1 dX2_extremeRay_11 hl (by decide) rfl (fun ls hl => ?_)
  exact t_X2_extremeRay_13 C N _ _ _ _ _ _ _ h _ _ ls (lv_sub hl [2, 3, 4, 1, 0] rfl) hw hS
def f_X2_extremeRay (N : Nat) (x1 : Int32) (x2 : Int32) (M : Mm) : Option (Nat × Mm) := b_X2_extremeRay_0 N x1 x2 M
set_option maxRecDepth 100000 in
theorem c_X2_extremeRay (θ : Th) (l : Launch) (N : Nat) {x1 : Int32} {x2 : Int32} {M : Mm} {r : Nat} {M1 : Mm} (h : f_X2_extremeRay N x1 x2 M = some (r, M1)) : Met l yX2_extremeRay (gws yX2_extremeRay cX2_extremeRay 6 (some (.array .long))) rm_X2_extremeRay (va_Pc [.ref (tad θ 0), .int x1, .int x2] (wU θ M)) (qR θ r M1) 0 0 (tA θ) :=
  k_met (by decide +kernel) (Nat.le_of_ble_eq_true rfl) (fun p e s m args below meth c C ls hl hw => t_X2_extremeRay_0 C N _ _ _ _ _ h _ _ ls (lv_sub hl [0, 1, 2] rfl) hw va_S.rf)
abbrev rm_X2_isSharpInBest : Room := { frames := 3, cells := 0, slots := 0, locals := 71 }
def J_X2_isSharpInBest_78 (θ : Th) (p : Program) (l : Launch) (e : Env) (s : State) (m : MethodId) (args : Array Value) (below : List Frame) (meth : Method) (c : Code) (g : Int32 → Nat → Int64 → Int32 → Nat → Int32 → Mm → Option (Int32 × Mm)) : Prop := ∀ (x1 : Int32) (x2 : Nat) (x3 : Int64) (x5 : Int32) (x6 : Nat) (s0 : Int32) (M : Mm) (r : Int32) (M1 : Mm), g x1 x2 x3 x5 x6 s0 M = some (r, M1) → ∀ (H : Heap) (locs : List Loc) (ls : Array Slot), lv_has ls 8 [(0, .ref (tad θ 0)), (1, .int x1), (2, .ref (tad θ (22 + x2))), (3, .long x3), (5, .int x5), (6, .ref (tad θ (22 + x6)))] → wd θ M H → va_S (tA θ) s.heap H locs → W p l e rm_X2_isSharpInBest s m args below meth c H locs 0 0 (MQ below (qI θ r M1) args s 0 0 (tA θ)) (F0 m 78 ls [.int s0])
def J_X2_isSharpInBest_77 (θ : Th) (p : Program) (l : Launch) (e : Env) (s : State) (m : MethodId) (args : Array Value) (below : List Frame) (meth : Method) (c : Code) (g : Int32 → Nat → Int64 → Int32 → Nat → Mm → Option (Int32 × Mm)) : Prop := ∀ (x1 : Int32) (x2 : Nat) (x3 : Int64) (x5 : Int32) (x6 : Nat) (M : Mm) (r : Int32) (M1 : Mm), g x1 x2 x3 x5 x6 M = some (r, M1) → ∀ (H : Heap) (locs : List Loc) (ls : Array Slot), lv_has ls 8 [(0, .ref (tad θ 0)), (1, .int x1), (2, .ref (tad θ (22 + x2))), (3, .long x3), (5, .int x5), (6, .ref (tad θ (22 + x6)))] → wd θ M H → va_S (tA θ) s.heap H locs → W p l e rm_X2_isSharpInBest s m args below meth c H locs 0 0 (MQ below (qI θ r M1) args s 0 0 (tA θ)) (F0 m 77 ls [])
def J_X2_isSharpInBest_17 (θ : Th) (p : Program) (l : Launch) (e : Env) (s : State) (m : MethodId) (args : Array Value) (below : List Frame) (meth : Method) (c : Code) (g : Int32 → Nat → Int64 → Int32 → Mm → Option (Int32 × Mm)) : Prop := ∀ (x1 : Int32) (x2 : Nat) (x3 : Int64) (x5 : Int32) (M : Mm) (r : Int32) (M1 : Mm), g x1 x2 x3 x5 M = some (r, M1) → ∀ (H : Heap) (locs : List Loc) (ls : Array Slot), lv_has ls 8 [(0, .ref (tad θ 0)), (1, .int x1), (2, .ref (tad θ (22 + x2))), (3, .long x3), (5, .int x5)] → wd θ M H → va_S (tA θ) s.heap H locs → W p l e rm_X2_isSharpInBest s m args below meth c H locs 0 0 (MQ below (qI θ r M1) args s 0 0 (tA θ)) (F0 m 17 ls [])
def J_X2_isSharpInBest_0 (θ : Th) (p : Program) (l : Launch) (e : Env) (s : State) (m : MethodId) (args : Array Value) (below : List Frame) (meth : Method) (c : Code) (g : Int32 → Mm → Option (Int32 × Mm)) : Prop := ∀ (x1 : Int32) (M : Mm) (r : Int32) (M1 : Mm), g x1 M = some (r, M1) → ∀ (H : Heap) (locs : List Loc) (ls : Array Slot), lv_has ls 8 [(0, .ref (tad θ 0)), (1, .int x1)] → wd θ M H → va_S (tA θ) s.heap H locs → W p l e rm_X2_isSharpInBest s m args below meth c H locs 0 0 (MQ below (qI θ r M1) args s 0 0 (tA θ)) (F0 m 0 ls [])
def b_X2_isSharpInBest_78 (N : Nat) (k17 : Int32 → Nat → Int64 → Int32 → Mm → Option (Int32 × Mm)) (x1 : Int32) (x2 : Nat) (x3 : Int64) (x5 : Int32) (x6 : Nat) (s0 : Int32) (M : Mm) : Option (Int32 × Mm) :=
  (if s0 = 0 then k17 x1 x2 x3 (x5 + 1) M else (f_X1_excess N x1 x6 M).bind fun (r92, M92) => (if (lg_cmp r92 0) = 0 then k17 x1 x2 x3 (x5 + 1) M92 else some (0, M92)))
set_option maxRecDepth 100000 in
set_option maxHeartbeats 4000000 in
theorem t_X2_isSharpInBest_78 {θ : Th} {p : Program} {l : Launch} {e : Env} {s : State} {m : MethodId} {args : Array Value} {below : List Frame} {meth : Method} {c : Code} (C : Cx θ p s m args meth c cX2_isSharpInBest 8 RX2 (some .boolean)) (N : Nat) {k17 : Int32 → Nat → Int64 → Int32 → Mm → Option (Int32 × Mm)} (hk17 : J_X2_isSharpInBest_17 θ p l e s m args below meth c k17) : J_X2_isSharpInBest_78 θ p l e s m args below meth c (b_X2_isSharpInBest_78 N k17) := by
  intro x1 x2 x3 x5 x6 s0 M r M1 h H locs ls hl hw hS
  unfold b_X2_isSharpInBest_78 at h
  refine lv_istore (lv' := [(7, .int s0), (0, .ref (tad θ 0)), (1, .int x1), (2, .ref (tad θ (22 + x2))), (3, .long x3), (5, .int x5), (6, .ref (tad θ (22 + x6)))]) C.1 C.2.1 dX2_isSharpInBest_78 hl (by decide) rfl (fun ls hl => ?_)
  refine lv_iload C.1 C.2.1 dX2_isSharpInBest_80 (lv_at hl 0 rfl) ?_
  refine lv_if_eq (tgt := 102) C.1 C.2.1 dX2_isSharpInBest_82 (by decide) (fun c82 => ?_) (fun c82 => ?_)
  · have h := it_t c82 h
    refine lv_iinc (v := (x5 + 1)) (lv' := [(5, .int (x5 + 1)), (7, .int s0), (0, .ref (tad θ 0)), (1, .int x1), (2, .ref (tad θ (22 + x2))), (3, .long x3), (6, .ref (tad θ (22 + x6)))]) C.1 C.2.1 dX2_isSharpInBest_102 hl (k := 5) rfl rfl (by decide) rfl (fun ls hl => ?_)
    refine lv_goto (tgt := 17) C.1 C.2.1 dX2_isSharpInBest_105 (by decide) ?_
    exact hk17 _ _ _ _ _ _ _ h _ _ ls (lv_sub hl [2, 3, 4, 5, 0] rfl) hw hS
  · have h := it_f c82 h
    refine lv_aload_n C.1 C.2.1 dX2_isSharpInBest_85 rfl (lv_at hl 1 rfl) ?_
    refine gf_X2_sheet C hw w_129 dX2_isSharpInBest_86 ?_
    refine lv_iload_n C.1 C.2.1 dX2_isSharpInBest_89 rfl (lv_at hl 2 rfl) ?_
    refine lv_aload C.1 C.2.1 dX2_isSharpInBest_90 (lv_at hl 6 rfl) ?_
    obtain ⟨⟨r92, M92⟩, h92, h⟩ := bind_s h
    dsimp only at h
    refine k_cl (k_runV (As := [.int x1, .ref (tad θ (22 + x6))]) C cf_X1_excess cv_X1_excess w_504 rc1 (c_X1_excess θ l N h92) ⟨rfl, rfl, Nat.le_of_ble_eq_true rfl, Nat.le_of_ble_eq_true rfl⟩ rfl hl.1 rfl (Nat.le_of_ble_eq_true rfl) dX2_isSharpInBest_92 ⟨Nat.zero_le _, Nat.zero_le _⟩ hw) hS (fun H locs hw hS => ?_)
    refine lv_lconst (v := 0) C.1 C.2.1 dX2_isSharpInBest_95 (by decide) ?_
    refine W.lcmp C.1 C.2.1 dX2_isSharpInBest_96 ?_
    refine lv_if_eq (tgt := 102) C.1 C.2.1 dX2_isSharpInBest_97 (by decide) (fun c97 => ?_) (fun c97 => ?_)
    · have h := it_t c97 h
      refine lv_iinc (v := (x5 + 1)) (lv' := [(5, .int (x5 + 1)), (7, .int s0), (0, .ref (tad θ 0)), (1, .int x1), (2, .ref (tad θ (22 + x2))), (3, .long x3), (6, .ref (tad θ (22 + x6)))]) C.1 C.2.1 dX2_isSharpInBest_102 hl (k := 5) rfl rfl (by decide) rfl (fun ls hl => ?_)
      refine lv_goto (tgt := 17) C.1 C.2.1 dX2_isSharpInBest_105 (by decide) ?_
      exact hk17 _ _ _ _ _ _ _ h _ _ ls (lv_sub hl [2, 3, 4, 5, 0] rfl) hw hS
    · have h := it_f c97 h
      refine lv_iconst (v := 0) C.1 C.2.1 dX2_isSharpInBest_100 (by decide) ?_
      cases h
      exact k_retz C hw hS (Or.inl rfl) dX2_isSharpInBest_101
def b_X2_isSharpInBest_77 (N : Nat) (k17 : Int32 → Nat → Int64 → Int32 → Mm → Option (Int32 × Mm)) (x1 : Int32) (x2 : Nat) (x3 : Int64) (x5 : Int32) (x6 : Nat) (M : Mm) : Option (Int32 × Mm) :=
  b_X2_isSharpInBest_78 N k17 x1 x2 x3 x5 x6 0 M
set_option maxRecDepth 100000 in
set_option maxHeartbeats 4000000 in
theorem t_X2_isSharpInBest_77 {θ : Th} {p : Program} {l : Launch} {e : Env} {s : State} {m : MethodId} {args : Array Value} {below : List Frame} {meth : Method} {c : Code} (C : Cx θ p s m args meth c cX2_isSharpInBest 8 RX2 (some .boolean)) (N : Nat) {k17 : Int32 → Nat → Int64 → Int32 → Mm → Option (Int32 × Mm)} (hk17 : J_X2_isSharpInBest_17 θ p l e s m args below meth c k17) : J_X2_isSharpInBest_77 θ p l e s m args below meth c (b_X2_isSharpInBest_77 N k17) := by
  intro x1 x2 x3 x5 x6 M r M1 h H locs ls hl hw hS
  unfold b_X2_isSharpInBest_77 at h
  refine lv_iconst (v := 0) C.1 C.2.1 dX2_isSharpInBest_77 (by decide) ?_
  exact t_X2_isSharpInBest_78 C N hk17 _ _ _ _ _ _ _ _ _ h _ _ ls (lv_sub hl [0, 1, 2, 3, 4, 5] rfl) hw hS
def F_X2_isSharpInBest_17 (N : Nat) (k17 : Int32 → Nat → Int64 → Int32 → Mm → Option (Int32 × Mm)) (x1 : Int32) (x2 : Nat) (x3 : Int64) (x5 : Int32) (M : Mm) : Option (Int32 × Mm) :=
  (if (M.1 2) ≤ x5 then some (1, M) else (rO 2 x5).bind fun v38 => (rL M v38 1).bind fun v44 => (if (lg_cmp v44 0) = 0 then (f_X1_worth N v38 M).bind fun (r56, M56) => (rL M56 x2 0).bind fun v61 => (rL M56 v38 0).bind fun v67 => (if (lg_cmp (r56 * v61) (x3 * v67)) = 0 then b_X2_isSharpInBest_78 N k17 x1 x2 x3 x5 v38 1 M56 else b_X2_isSharpInBest_77 N k17 x1 x2 x3 x5 v38 M56) else b_X2_isSharpInBest_77 N k17 x1 x2 x3 x5 v38 M))
abbrev b_X2_isSharpInBest_17 (N : Nat) : Int32 → Nat → Int64 → Int32 → Mm → Option (Int32 × Mm) := lpT (fun _ _ _ _ _ => none) (F_X2_isSharpInBest_17 N) N
set_option maxRecDepth 100000 in
set_option maxHeartbeats 4000000 in
theorem tF_X2_isSharpInBest_17 {θ : Th} {p : Program} {l : Launch} {e : Env} {s : State} {m : MethodId} {args : Array Value} {below : List Frame} {meth : Method} {c : Code} (C : Cx θ p s m args meth c cX2_isSharpInBest 8 RX2 (some .boolean)) (N : Nat) {k17 : Int32 → Nat → Int64 → Int32 → Mm → Option (Int32 × Mm)} (hk17 : J_X2_isSharpInBest_17 θ p l e s m args below meth c k17) : J_X2_isSharpInBest_17 θ p l e s m args below meth c (F_X2_isSharpInBest_17 N k17) := by
  intro x1 x2 x3 x5 M r M1 h H locs ls hl hw hS
  unfold F_X2_isSharpInBest_17 at h
  refine lv_iload C.1 C.2.1 dX2_isSharpInBest_17 (lv_at hl 4 rfl) ?_
  refine lv_aload_n C.1 C.2.1 dX2_isSharpInBest_19 rfl (lv_at hl 0 rfl) ?_
  refine gf_X2_cone C hw w_130 dX2_isSharpInBest_20 ?_
  refine gf_X0_count C hw w_111 dX2_isSharpInBest_23 ?_
  refine lv_icmp_ge (tgt := 108) C.1 C.2.1 dX2_isSharpInBest_26 (by decide) (fun c26 => ?_) (fun c26 => ?_)
  · have h := it_t c26 h
    refine lv_iconst (v := 1) C.1 C.2.1 dX2_isSharpInBest_108 (by decide) ?_
    cases h
    exact k_retz C hw hS (Or.inr rfl) dX2_isSharpInBest_109
  · have h := it_f c26 h
    refine lv_aload_n C.1 C.2.1 dX2_isSharpInBest_29 rfl (lv_at hl 0 rfl) ?_
    refine gf_X2_cone C hw w_130 dX2_isSharpInBest_30 ?_
    refine gf_X0_rays C hw w_109 dX2_isSharpInBest_33 ?_
    refine lv_iload C.1 C.2.1 dX2_isSharpInBest_36 (lv_at hl 4 rfl) ?_
    obtain ⟨v38, h38, h⟩ := bind_s h
    refine k_aald C hw 2 (by decide) h38 dX2_isSharpInBest_38 ?_
    refine lv_astore (lv' := [(6, .ref (tad θ (22 + v38))), (0, .ref (tad θ 0)), (1, .int x1), (2, .ref (tad θ (22 + x2))), (3, .long x3), (5, .int x5)]) C.1 C.2.1 dX2_isSharpInBest_39 hl (by decide) rfl (fun ls hl => ?_)
    refine lv_aload C.1 C.2.1 dX2_isSharpInBest_41 (lv_at hl 0 rfl) ?_
    refine lv_iconst (v := 1) C.1 C.2.1 dX2_isSharpInBest_43 (by decide) ?_
    obtain ⟨v44, h44, h⟩ := bind_s h
    refine k_lald C hw v38 h44 dX2_isSharpInBest_44 ?_
    refine lv_lconst (v := 0) C.1 C.2.1 dX2_isSharpInBest_45 (by decide) ?_
    refine W.lcmp C.1 C.2.1 dX2_isSharpInBest_46 ?_
    refine lv_if_ne (tgt := 77) C.1 C.2.1 dX2_isSharpInBest_47 (by decide) (fun c47 => ?_) (fun c47 => ?_)
    · have h := it_f c47 h
      exact t_X2_isSharpInBest_77 C N hk17 _ _ _ _ _ _ _ _ h _ _ ls (lv_sub hl [1, 2, 3, 4, 5, 0] rfl) hw hS
    · have h := it_t c47 h
      refine lv_aload_n C.1 C.2.1 dX2_isSharpInBest_50 rfl (lv_at hl 1 rfl) ?_
      refine gf_X2_sheet C hw w_129 dX2_isSharpInBest_51 ?_
      refine lv_aload C.1 C.2.1 dX2_isSharpInBest_54 (lv_at hl 0 rfl) ?_
      obtain ⟨⟨r56, M56⟩, h56, h⟩ := bind_s h
      dsimp only at h
      refine k_cl (k_runV (As := [.ref (tad θ (22 + v38))]) C cf_X1_worth cv_X1_worth w_211 rc1 (c_X1_worth θ l N h56) ⟨rfl, rfl, Nat.le_of_ble_eq_true rfl, Nat.le_of_ble_eq_true rfl⟩ rfl hl.1 rfl (Nat.le_of_ble_eq_true rfl) dX2_isSharpInBest_56 ⟨Nat.zero_le _, Nat.zero_le _⟩ hw) hS (fun H locs hw hS => ?_)
      refine lv_aload_n C.1 C.2.1 dX2_isSharpInBest_59 rfl (lv_at hl 3 rfl) ?_
      refine lv_iconst (v := 0) C.1 C.2.1 dX2_isSharpInBest_60 (by decide) ?_
      obtain ⟨v61, h61, h⟩ := bind_s h
      refine k_lald C hw x2 h61 dX2_isSharpInBest_61 ?_
      refine lv_lmul C.1 C.2.1 dX2_isSharpInBest_62 ?_
      refine lv_lload_n C.1 C.2.1 dX2_isSharpInBest_63 rfl (lv_at hl 4 rfl) ?_
      refine lv_aload C.1 C.2.1 dX2_isSharpInBest_64 (lv_at hl 0 rfl) ?_
      refine lv_iconst (v := 0) C.1 C.2.1 dX2_isSharpInBest_66 (by decide) ?_
      obtain ⟨v67, h67, h⟩ := bind_s h
      refine k_lald C hw v38 h67 dX2_isSharpInBest_67 ?_
      refine lv_lmul C.1 C.2.1 dX2_isSharpInBest_68 ?_
      refine W.lcmp C.1 C.2.1 dX2_isSharpInBest_69 ?_
      refine lv_if_ne (tgt := 77) C.1 C.2.1 dX2_isSharpInBest_70 (by decide) (fun c70 => ?_) (fun c70 => ?_)
      · have h := it_f c70 h
        exact t_X2_isSharpInBest_77 C N hk17 _ _ _ _ _ _ _ _ h _ _ ls (lv_sub hl [1, 2, 3, 4, 5, 0] rfl) hw hS
      · have h := it_t c70 h
        refine lv_iconst (v := 1) C.1 C.2.1 dX2_isSharpInBest_73 (by decide) ?_
        refine lv_goto (tgt := 78) C.1 C.2.1 dX2_isSharpInBest_74 (by decide) ?_
        exact t_X2_isSharpInBest_78 C N hk17 _ _ _ _ _ _ _ _ _ h _ _ ls (lv_sub hl [1, 2, 3, 4, 5, 0] rfl) hw hS
theorem t_X2_isSharpInBest_17 {θ : Th} {p : Program} {l : Launch} {e : Env} {s : State} {m : MethodId} {args : Array Value} {below : List Frame} {meth : Method} {c : Code} (C : Cx θ p s m args meth c cX2_isSharpInBest 8 RX2 (some .boolean)) (N : Nat) : J_X2_isSharpInBest_17 θ p l e s m args below meth c (b_X2_isSharpInBest_17 N) := lpT_ind (J := J_X2_isSharpInBest_17 θ p l e s m args below meth c) (fun _ _ _ _ _ _ _ h => by cases h) (fun k hk => tF_X2_isSharpInBest_17 C N hk) N
def b_X2_isSharpInBest_0 (N : Nat) (x1 : Int32) (M : Mm) : Option (Int32 × Mm) :=
  (f_X2_bestRay N M).bind fun (r1, M1) => (f_X1_worth N r1 M1).bind fun (r10, M10) => b_X2_isSharpInBest_17 N x1 r1 r10 0 M10
set_option maxRecDepth 100000 in
set_option maxHeartbeats 4000000 in
theorem t_X2_isSharpInBest_0 {θ : Th} {p : Program} {l : Launch} {e : Env} {s : State} {m : MethodId} {args : Array Value} {below : List Frame} {meth : Method} {c : Code} (C : Cx θ p s m args meth c cX2_isSharpInBest 8 RX2 (some .boolean)) (N : Nat) : J_X2_isSharpInBest_0 θ p l e s m args below meth c (b_X2_isSharpInBest_0 N) := by
  intro x1 M r M1 h H locs ls hl hw hS
  unfold b_X2_isSharpInBest_0 at h
  refine lv_aload_n C.1 C.2.1 dX2_isSharpInBest_0 rfl (lv_at hl 0 rfl) ?_
  obtain ⟨⟨r1, M1⟩, h1, h⟩ := bind_s h
  dsimp only at h
  refine k_cr (k_runV (As := []) C cf_X2_bestRay cv_X2_bestRay w_431 rc0 (c_X2_bestRay θ l N h1) ⟨rfl, rfl, Nat.le_of_ble_eq_true rfl, Nat.le_of_ble_eq_true rfl⟩ rfl hl.1 rfl (Nat.le_of_ble_eq_true rfl) dX2_isSharpInBest_1 ⟨Nat.zero_le _, Nat.zero_le _⟩ hw) hS (fun H locs hw hS => ?_)
  refine lv_astore_n (lv' := [(2, .ref (tad θ (22 + r1))), (0, .ref (tad θ 0)), (1, .int x1)]) C.1 C.2.1 dX2_isSharpInBest_4 rfl hl (by decide) rfl (fun ls hl => ?_)
  refine lv_aload_n C.1 C.2.1 dX2_isSharpInBest_5 rfl (lv_at hl 1 rfl) ?_
  refine gf_X2_sheet C hw w_129 dX2_isSharpInBest_6 ?_
  refine lv_aload_n C.1 C.2.1 dX2_isSharpInBest_9 rfl (lv_at hl 0 rfl) ?_
  obtain ⟨⟨r10, M10⟩, h10, h⟩ := bind_s h
  dsimp only at h
  refine k_cl (k_runV (As := [.ref (tad θ (22 + r1))]) C cf_X1_worth cv_X1_worth w_211 rc1 (c_X1_worth θ l N h10) ⟨rfl, rfl, Nat.le_of_ble_eq_true rfl, Nat.le_of_ble_eq_true rfl⟩ rfl hl.1 rfl (Nat.le_of_ble_eq_true rfl) dX2_isSharpInBest_10 ⟨Nat.zero_le _, Nat.zero_le _⟩ hw) hS (fun H locs hw hS => ?_)
  refine lv_lstore_n (lv' := [(3, .long r10), (2, .ref (tad θ (22 + r1))), (0, .ref (tad θ 0)), (1, .int x1)]) C.1 C.2.1 dX2_isSharpInBest_13 rfl hl (by decide) rfl (fun ls hl => ?_)
  refine lv_iconst (v := 0) C.1 C.2.1 dX2_isSharpInBest_14 (by decide) ?_
  refine lv_istore (lv' := [(5, .int 0), (3, .long r10), (2, .ref (tad θ (22 + r1))), (0, .ref (tad θ 0)), (1, .int x1)]) C.1 C.2.1 dX2_isSharpInBest_15 hl (by decide) rfl (fun ls hl => ?_)
  exact t_X2_isSharpInBest_17 C N _ _ _ _ _ _ _ h _ _ ls (lv_sub hl [3, 4, 2, 1, 0] rfl) hw hS
def f_X2_isSharpInBest (N : Nat) (x1 : Int32) (M : Mm) : Option (Int32 × Mm) := b_X2_isSharpInBest_0 N x1 M
set_option maxRecDepth 100000 in
theorem c_X2_isSharpInBest (θ : Th) (l : Launch) (N : Nat) {x1 : Int32} {M : Mm} {r : Int32} {M1 : Mm} (h : f_X2_isSharpInBest N x1 M = some (r, M1)) : Met l yX2_isSharpInBest (gws yX2_isSharpInBest cX2_isSharpInBest 8 (some .boolean)) rm_X2_isSharpInBest (va_Pc [.ref (tad θ 0), .int x1] (wU θ M)) (qI θ r M1) 0 0 (tA θ) :=
  k_met (by decide +kernel) (Nat.le_of_ble_eq_true rfl) (fun p e s m args below meth c C ls hl hw => t_X2_isSharpInBest_0 C N _ _ _ _ h _ _ ls (lv_sub hl [0, 1] rfl) hw va_S.rf)
abbrev rm_X2_compareTimes : Room := { frames := 1, cells := 0, slots := 0, locals := 23 }
def J_X2_compareTimes_0 (θ : Th) (p : Program) (l : Launch) (e : Env) (s : State) (m : MethodId) (args : Array Value) (below : List Frame) (meth : Method) (c : Code) (g : Nat → Nat → Mm → Option (Int32 × Mm)) : Prop := ∀ (x0 : Nat) (x1 : Nat) (M : Mm) (r : Int32) (M1 : Mm), g x0 x1 M = some (r, M1) → ∀ (H : Heap) (locs : List Loc) (ls : Array Slot), lv_has ls 2 [(0, .ref (tad θ (22 + x0))), (1, .ref (tad θ (22 + x1)))] → wd θ M H → va_S (tA θ) s.heap H locs → W p l e rm_X2_compareTimes s m args below meth c H locs 0 0 (MQ below (qI θ r M1) args s 0 0 (tA θ)) (F0 m 0 ls [])
def b_X2_compareTimes_0 (N : Nat) (x0 : Nat) (x1 : Nat) (M : Mm) : Option (Int32 × Mm) :=
  (rL M x0 1).bind fun v2 => (rL M x1 0).bind fun v5 => (rL M x1 1).bind fun v9 => (rL M x0 0).bind fun v12 => (f_J13_compare_74951 N (v2 * v5) (v9 * v12) M).bind fun (r14, M14) => some (r14, M14)
set_option maxRecDepth 100000 in
set_option maxHeartbeats 4000000 in
theorem t_X2_compareTimes_0 {θ : Th} {p : Program} {l : Launch} {e : Env} {s : State} {m : MethodId} {args : Array Value} {below : List Frame} {meth : Method} {c : Code} (C : Cx θ p s m args meth c cX2_compareTimes 2 RX2 (some .int)) (N : Nat) : J_X2_compareTimes_0 θ p l e s m args below meth c (b_X2_compareTimes_0 N) := by
  intro x0 x1 M r M1 h H locs ls hl hw hS
  unfold b_X2_compareTimes_0 at h
  refine lv_aload_n C.1 C.2.1 dX2_compareTimes_0 rfl (lv_at hl 0 rfl) ?_
  refine lv_iconst (v := 1) C.1 C.2.1 dX2_compareTimes_1 (by decide) ?_
  obtain ⟨v2, h2, h⟩ := bind_s h
  refine k_lald C hw x0 h2 dX2_compareTimes_2 ?_
  refine lv_aload_n C.1 C.2.1 dX2_compareTimes_3 rfl (lv_at hl 1 rfl) ?_
  refine lv_iconst (v := 0) C.1 C.2.1 dX2_compareTimes_4 (by decide) ?_
  obtain ⟨v5, h5, h⟩ := bind_s h
  refine k_lald C hw x1 h5 dX2_compareTimes_5 ?_
  refine lv_lmul C.1 C.2.1 dX2_compareTimes_6 ?_
  refine lv_aload_n C.1 C.2.1 dX2_compareTimes_7 rfl (lv_at hl 1 rfl) ?_
  refine lv_iconst (v := 1) C.1 C.2.1 dX2_compareTimes_8 (by decide) ?_
  obtain ⟨v9, h9, h⟩ := bind_s h
  refine k_lald C hw x1 h9 dX2_compareTimes_9 ?_
  refine lv_aload_n C.1 C.2.1 dX2_compareTimes_10 rfl (lv_at hl 0 rfl) ?_
  refine lv_iconst (v := 0) C.1 C.2.1 dX2_compareTimes_11 (by decide) ?_
  obtain ⟨v12, h12, h⟩ := bind_s h
  refine k_lald C hw x0 h12 dX2_compareTimes_12 ?_
  refine lv_lmul C.1 C.2.1 dX2_compareTimes_13 ?_
  obtain ⟨⟨r14, M14⟩, h14, h⟩ := bind_s h
  dsimp only at h
  refine k_ci (k_runS (As := [.long (v2 * v5), .long (v9 * v12)]) C cf_J13_compare_74951 cs_J13_compare_74951 w_234 (c_J13_compare_74951 θ l N h14) ⟨rfl, rfl, Nat.le_of_ble_eq_true rfl, Nat.le_of_ble_eq_true rfl⟩ rfl hl.1 rfl (Nat.le_of_ble_eq_true rfl) dX2_compareTimes_14 ⟨Nat.zero_le _, Nat.zero_le _⟩ hw) hS (fun H locs hw hS => ?_)
  cases h
  exact k_reti C hw hS dX2_compareTimes_17
def f_X2_compareTimes (N : Nat) (x0 : Nat) (x1 : Nat) (M : Mm) : Option (Int32 × Mm) := b_X2_compareTimes_0 N x0 x1 M
set_option maxRecDepth 100000 in
theorem c_X2_compareTimes (θ : Th) (l : Launch) (N : Nat) {x0 : Nat} {x1 : Nat} {M : Mm} {r : Int32} {M1 : Mm} (h : f_X2_compareTimes N x0 x1 M = some (r, M1)) : Met l yX2_compareTimes (gws yX2_compareTimes cX2_compareTimes 2 (some .int)) rm_X2_compareTimes (va_Pc [.ref (tad θ (22 + x0)), .ref (tad θ (22 + x1))] (wU θ M)) (qI θ r M1) 0 0 (tA θ) :=
  k_met (by decide +kernel) (Nat.le_of_ble_eq_true rfl) (fun p e s m args below meth c C ls hl hw => t_X2_compareTimes_0 C N _ _ _ _ _ h _ _ ls (lv_sub hl [0, 1] rfl) hw va_S.rf)
abbrev rm_X2_isEarlier : Room := { frames := 2, cells := 0, slots := 0, locals := 44 }
def J_X2_isEarlier_0 (θ : Th) (p : Program) (l : Launch) (e : Env) (s : State) (m : MethodId) (args : Array Value) (below : List Frame) (meth : Method) (c : Code) (g : Nat → Nat → Mm → Option (Int32 × Mm)) : Prop := ∀ (x1 : Nat) (x2 : Nat) (M : Mm) (r : Int32) (M1 : Mm), g x1 x2 M = some (r, M1) → ∀ (H : Heap) (locs : List Loc) (ls : Array Slot), lv_has ls 8 [(0, .ref (tad θ 0)), (1, .ref (tad θ (22 + x1))), (2, .ref (tad θ (22 + x2)))] → wd θ M H → va_S (tA θ) s.heap H locs → W p l e rm_X2_isEarlier s m args below meth c H locs 0 0 (MQ below (qI θ r M1) args s 0 0 (tA θ)) (F0 m 0 ls [])
def b_X2_isEarlier_0 (N : Nat) (x1 : Nat) (x2 : Nat) (M : Mm) : Option (Int32 × Mm) :=
  (f_X2_compareTimes N x1 x2 M).bind fun (r2, M2) => (if r2 = 0 then (rL M2 x1 0).bind fun v22 => (rL M2 x1 1).bind fun v25 => (rL M2 x2 0).bind fun v31 => (rL M2 x2 1).bind fun v34 => (f_X1_worth N x1 M2).bind fun (r43, M43) => (f_X1_worth N x2 M43).bind fun (r54, M54) => (if (lg_cmp (r43 * (v31 + v34)) (r54 * (v22 + v25))) ≤ 0 then some (0, M54) else some (1, M54)) else (if 0 ≤ r2 then some (0, M2) else some (1, M2)))
set_option maxRecDepth 100000 in
set_option maxHeartbeats 4000000 in
theorem t_X2_isEarlier_0 {θ : Th} {p : Program} {l : Launch} {e : Env} {s : State} {m : MethodId} {args : Array Value} {below : List Frame} {meth : Method} {c : Code} (C : Cx θ p s m args meth c cX2_isEarlier 8 RX2 (some .boolean)) (N : Nat) : J_X2_isEarlier_0 θ p l e s m args below meth c (b_X2_isEarlier_0 N) := by
  intro x1 x2 M r M1 h H locs ls hl hw hS
  unfold b_X2_isEarlier_0 at h
  refine lv_aload_n C.1 C.2.1 dX2_isEarlier_0 rfl (lv_at hl 1 rfl) ?_
  refine lv_aload_n C.1 C.2.1 dX2_isEarlier_1 rfl (lv_at hl 2 rfl) ?_
  obtain ⟨⟨r2, M2⟩, h2, h⟩ := bind_s h
  dsimp only at h
  refine k_ci (k_runS (As := [.ref (tad θ (22 + x1)), .ref (tad θ (22 + x2))]) C cf_X2_compareTimes cs_X2_compareTimes w_231 (c_X2_compareTimes θ l N h2) ⟨rfl, rfl, Nat.le_of_ble_eq_true rfl, Nat.le_of_ble_eq_true rfl⟩ rfl hl.1 rfl (Nat.le_of_ble_eq_true rfl) dX2_isEarlier_2 ⟨Nat.zero_le _, Nat.zero_le _⟩ hw) hS (fun H locs hw hS => ?_)
  refine lv_istore_n (lv' := [(3, .int r2), (0, .ref (tad θ 0)), (1, .ref (tad θ (22 + x1))), (2, .ref (tad θ (22 + x2)))]) C.1 C.2.1 dX2_isEarlier_5 rfl hl (by decide) rfl (fun ls hl => ?_)
  refine lv_iload_n C.1 C.2.1 dX2_isEarlier_6 rfl (lv_at hl 0 rfl) ?_
  refine lv_if_eq (tgt := 20) C.1 C.2.1 dX2_isEarlier_7 (by decide) (fun c7 => ?_) (fun c7 => ?_)
  · have h := it_t c7 h
    refine lv_aload_n C.1 C.2.1 dX2_isEarlier_20 rfl (lv_at hl 2 rfl) ?_
    refine lv_iconst (v := 0) C.1 C.2.1 dX2_isEarlier_21 (by decide) ?_
    obtain ⟨v22, h22, h⟩ := bind_s h
    refine k_lald C hw x1 h22 dX2_isEarlier_22 ?_
    refine lv_aload_n C.1 C.2.1 dX2_isEarlier_23 rfl (lv_at hl 2 rfl) ?_
    refine lv_iconst (v := 1) C.1 C.2.1 dX2_isEarlier_24 (by decide) ?_
    obtain ⟨v25, h25, h⟩ := bind_s h
    refine k_lald C hw x1 h25 dX2_isEarlier_25 ?_
    refine lv_ladd C.1 C.2.1 dX2_isEarlier_26 ?_
    refine lv_lstore (lv' := [(4, .long (v22 + v25)), (3, .int r2), (0, .ref (tad θ 0)), (1, .ref (tad θ (22 + x1))), (2, .ref (tad θ (22 + x2)))]) C.1 C.2.1 dX2_isEarlier_27 hl (by decide) rfl (fun ls hl => ?_)
    refine lv_aload_n C.1 C.2.1 dX2_isEarlier_29 rfl (lv_at hl 4 rfl) ?_
    refine lv_iconst (v := 0) C.1 C.2.1 dX2_isEarlier_30 (by decide) ?_
    obtain ⟨v31, h31, h⟩ := bind_s h
    refine k_lald C hw x2 h31 dX2_isEarlier_31 ?_
    refine lv_aload_n C.1 C.2.1 dX2_isEarlier_32 rfl (lv_at hl 4 rfl) ?_
    refine lv_iconst (v := 1) C.1 C.2.1 dX2_isEarlier_33 (by decide) ?_
    obtain ⟨v34, h34, h⟩ := bind_s h
    refine k_lald C hw x2 h34 dX2_isEarlier_34 ?_
    refine lv_ladd C.1 C.2.1 dX2_isEarlier_35 ?_
    refine lv_lstore (lv' := [(6, .long (v31 + v34)), (4, .long (v22 + v25)), (3, .int r2), (0, .ref (tad θ 0)), (1, .ref (tad θ (22 + x1))), (2, .ref (tad θ (22 + x2)))]) C.1 C.2.1 dX2_isEarlier_36 hl (by decide) rfl (fun ls hl => ?_)
    refine lv_aload_n C.1 C.2.1 dX2_isEarlier_38 rfl (lv_at hl 3 rfl) ?_
    refine gf_X2_sheet C hw w_129 dX2_isEarlier_39 ?_
    refine lv_aload_n C.1 C.2.1 dX2_isEarlier_42 rfl (lv_at hl 4 rfl) ?_
    obtain ⟨⟨r43, M43⟩, h43, h⟩ := bind_s h
    dsimp only at h
    refine k_cl (k_runV (As := [.ref (tad θ (22 + x1))]) C cf_X1_worth cv_X1_worth w_211 rc1 (c_X1_worth θ l N h43) ⟨rfl, rfl, Nat.le_of_ble_eq_true rfl, Nat.le_of_ble_eq_true rfl⟩ rfl hl.1 rfl (Nat.le_of_ble_eq_true rfl) dX2_isEarlier_43 ⟨Nat.zero_le _, Nat.zero_le _⟩ hw) hS (fun H locs hw hS => ?_)
    refine lv_lload C.1 C.2.1 dX2_isEarlier_46 (lv_at hl 0 rfl) ?_
    refine lv_lmul C.1 C.2.1 dX2_isEarlier_48 ?_
    refine lv_aload_n C.1 C.2.1 dX2_isEarlier_49 rfl (lv_at hl 3 rfl) ?_
    refine gf_X2_sheet C hw w_129 dX2_isEarlier_50 ?_
    refine lv_aload_n C.1 C.2.1 dX2_isEarlier_53 rfl (lv_at hl 5 rfl) ?_
    obtain ⟨⟨r54, M54⟩, h54, h⟩ := bind_s h
    dsimp only at h
    refine k_cl (k_runV (As := [.ref (tad θ (22 + x2))]) C cf_X1_worth cv_X1_worth w_211 rc1 (c_X1_worth θ l N h54) ⟨rfl, rfl, Nat.le_of_ble_eq_true rfl, Nat.le_of_ble_eq_true rfl⟩ rfl hl.1 rfl (Nat.le_of_ble_eq_true rfl) dX2_isEarlier_54 ⟨Nat.zero_le _, Nat.zero_le _⟩ hw) hS (fun H locs hw hS => ?_)
    refine lv_lload C.1 C.2.1 dX2_isEarlier_57 (lv_at hl 1 rfl) ?_
    refine lv_lmul C.1 C.2.1 dX2_isEarlier_59 ?_
    refine W.lcmp C.1 C.2.1 dX2_isEarlier_60 ?_
    refine lv_if_le (tgt := 68) C.1 C.2.1 dX2_isEarlier_61 (by decide) (fun c61 => ?_) (fun c61 => ?_)
    · have h := it_t c61 h
      refine lv_iconst (v := 0) C.1 C.2.1 dX2_isEarlier_68 (by decide) ?_
      cases h
      exact k_retz C hw hS (Or.inl rfl) dX2_isEarlier_69
    · have h := it_f c61 h
      refine lv_iconst (v := 1) C.1 C.2.1 dX2_isEarlier_64 (by decide) ?_
      refine lv_goto (tgt := 69) C.1 C.2.1 dX2_isEarlier_65 (by decide) ?_
      cases h
      exact k_retz C hw hS (Or.inr rfl) dX2_isEarlier_69
  · have h := it_f c7 h
    refine lv_iload_n C.1 C.2.1 dX2_isEarlier_10 rfl (lv_at hl 0 rfl) ?_
    refine lv_if_ge (tgt := 18) C.1 C.2.1 dX2_isEarlier_11 (by decide) (fun c11 => ?_) (fun c11 => ?_)
    · have h := it_t c11 h
      refine lv_iconst (v := 0) C.1 C.2.1 dX2_isEarlier_18 (by decide) ?_
      cases h
      exact k_retz C hw hS (Or.inl rfl) dX2_isEarlier_19
    · have h := it_f c11 h
      refine lv_iconst (v := 1) C.1 C.2.1 dX2_isEarlier_14 (by decide) ?_
      refine lv_goto (tgt := 19) C.1 C.2.1 dX2_isEarlier_15 (by decide) ?_
      cases h
      exact k_retz C hw hS (Or.inr rfl) dX2_isEarlier_19
def f_X2_isEarlier (N : Nat) (x1 : Nat) (x2 : Nat) (M : Mm) : Option (Int32 × Mm) := b_X2_isEarlier_0 N x1 x2 M
set_option maxRecDepth 100000 in
theorem c_X2_isEarlier (θ : Th) (l : Launch) (N : Nat) {x1 : Nat} {x2 : Nat} {M : Mm} {r : Int32} {M1 : Mm} (h : f_X2_isEarlier N x1 x2 M = some (r, M1)) : Met l yX2_isEarlier (gws yX2_isEarlier cX2_isEarlier 8 (some .boolean)) rm_X2_isEarlier (va_Pc [.ref (tad θ 0), .ref (tad θ (22 + x1)), .ref (tad θ (22 + x2))] (wU θ M)) (qI θ r M1) 0 0 (tA θ) :=
  k_met (by decide +kernel) (Nat.le_of_ble_eq_true rfl) (fun p e s m args below meth c C ls hl hw => t_X2_isEarlier_0 C N _ _ _ _ _ h _ _ ls (lv_sub hl [0, 1, 2] rfl) hw va_S.rf)
abbrev rm_X2_earliestRay : Room := { frames := 3, cells := 0, slots := 0, locals := 71 }
def J_X2_earliestRay_4 (θ : Th) (p : Program) (l : Launch) (e : Env) (s : State) (m : MethodId) (args : Array Value) (below : List Frame) (meth : Method) (c : Code) (g : Int32 → Int32 → Mm → Option (Int32 × Mm)) : Prop := ∀ (x1 : Int32) (x2 : Int32) (M : Mm) (r : Int32) (M1 : Mm), g x1 x2 M = some (r, M1) → ∀ (H : Heap) (locs : List Loc) (ls : Array Slot), lv_has ls 3 [(0, .ref (tad θ 0)), (1, .int x1), (2, .int x2)] → wd θ M H → va_S (tA θ) s.heap H locs → W p l e rm_X2_earliestRay s m args below meth c H locs 0 0 (MQ below (qI θ r M1) args s 0 0 (tA θ)) (F0 m 4 ls [])
def J_X2_earliestRay_0 (θ : Th) (p : Program) (l : Launch) (e : Env) (s : State) (m : MethodId) (args : Array Value) (below : List Frame) (meth : Method) (c : Code) (g : Mm → Option (Int32 × Mm)) : Prop := ∀ (M : Mm) (r : Int32) (M1 : Mm), g M = some (r, M1) → ∀ (H : Heap) (locs : List Loc) (ls : Array Slot), lv_has ls 3 [(0, .ref (tad θ 0))] → wd θ M H → va_S (tA θ) s.heap H locs → W p l e rm_X2_earliestRay s m args below meth c H locs 0 0 (MQ below (qI θ r M1) args s 0 0 (tA θ)) (F0 m 0 ls [])
def F_X2_earliestRay_4 (N : Nat) (k4 : Int32 → Int32 → Mm → Option (Int32 × Mm)) (x1 : Int32) (x2 : Int32) (M : Mm) : Option (Int32 × Mm) :=
  (if (M.1 2) ≤ x2 then some (x1, M) else (rO 2 x2).bind fun v23 => (f_X2_isDirection N v23 M).bind fun (r24, M24) => (if r24 = 0 then (if x1 = (-1) then k4 x2 (x2 + 1) M24 else (rO 2 x2).bind fun v44 => (rO 2 x1).bind fun v53 => (f_X2_isEarlier N v44 v53 M24).bind fun (r54, M54) => (if r54 = 0 then k4 x1 (x2 + 1) M54 else k4 x2 (x2 + 1) M54)) else k4 x1 (x2 + 1) M24))
abbrev b_X2_earliestRay_4 (N : Nat) : Int32 → Int32 → Mm → Option (Int32 × Mm) := lpT (fun _ _ _ => none) (F_X2_earliestRay_4 N) N
set_option maxRecDepth 100000 in
set_option maxHeartbeats 4000000 in
theorem tF_X2_earliestRay_4 {θ : Th} {p : Program} {l : Launch} {e : Env} {s : State} {m : MethodId} {args : Array Value} {below : List Frame} {meth : Method} {c : Code} (C : Cx θ p s m args meth c cX2_earliestRay 3 RX2 (some .int)) (N : Nat) {k4 : Int32 → Int32 → Mm → Option (Int32 × Mm)} (hk4 : J_X2_earliestRay_4 θ p l e s m args below meth c k4) : J_X2_earliestRay_4 θ p l e s m args below meth c (F_X2_earliestRay_4 N k4) := by
  intro x1 x2 M r M1 h H locs ls hl hw hS
  unfold F_X2_earliestRay_4 at h
  refine lv_iload_n C.1 C.2.1 dX2_earliestRay_4 rfl (lv_at hl 2 rfl) ?_
  refine lv_aload_n C.1 C.2.1 dX2_earliestRay_5 rfl (lv_at hl 0 rfl) ?_
  refine gf_X2_cone C hw w_130 dX2_earliestRay_6 ?_
  refine gf_X0_count C hw w_111 dX2_earliestRay_9 ?_
  refine lv_icmp_ge (tgt := 68) C.1 C.2.1 dX2_earliestRay_12 (by decide) (fun c12 => ?_) (fun c12 => ?_)
  · have h := it_t c12 h
    refine lv_iload_n C.1 C.2.1 dX2_earliestRay_68 rfl (lv_at hl 1 rfl) ?_
    cases h
    exact k_reti C hw hS dX2_earliestRay_69
  · have h := it_f c12 h
    refine lv_aload_n C.1 C.2.1 dX2_earliestRay_15 rfl (lv_at hl 0 rfl) ?_
    refine gf_X2_cone C hw w_130 dX2_earliestRay_16 ?_
    refine gf_X0_rays C hw w_109 dX2_earliestRay_19 ?_
    refine lv_iload_n C.1 C.2.1 dX2_earliestRay_22 rfl (lv_at hl 2 rfl) ?_
    obtain ⟨v23, h23, h⟩ := bind_s h
    refine k_aald C hw 2 (by decide) h23 dX2_earliestRay_23 ?_
    obtain ⟨⟨r24, M24⟩, h24, h⟩ := bind_s h
    dsimp only at h
    refine k_ci (k_runS (As := [.ref (tad θ (22 + v23))]) C cf_X2_isDirection cs_X2_isDirection w_208 (c_X2_isDirection θ l N h24) ⟨rfl, rfl, Nat.le_of_ble_eq_true rfl, Nat.le_of_ble_eq_true rfl⟩ rfl hl.1 rfl (Nat.le_of_ble_eq_true rfl) dX2_earliestRay_24 ⟨Nat.zero_le _, Nat.zero_le _⟩ hw) hS (fun H locs hw hS => ?_)
    refine lv_if_ne (tgt := 62) C.1 C.2.1 dX2_earliestRay_27 (by decide) (fun c27 => ?_) (fun c27 => ?_)
    · have h := it_f c27 h
      refine lv_iinc (v := (x2 + 1)) (lv' := [(2, .int (x2 + 1)), (0, .ref (tad θ 0)), (1, .int x1)]) C.1 C.2.1 dX2_earliestRay_62 hl (k := 2) rfl rfl (by decide) rfl (fun ls hl => ?_)
      refine lv_goto (tgt := 4) C.1 C.2.1 dX2_earliestRay_65 (by decide) ?_
      exact hk4 _ _ _ _ _ h _ _ ls (lv_sub hl [1, 2, 0] rfl) hw hS
    · have h := it_t c27 h
      refine lv_iload_n C.1 C.2.1 dX2_earliestRay_30 rfl (lv_at hl 1 rfl) ?_
      refine lv_iconst (v := (-1)) C.1 C.2.1 dX2_earliestRay_31 (by decide) ?_
      refine lv_icmp_eq (tgt := 60) C.1 C.2.1 dX2_earliestRay_32 (by decide) (fun c32 => ?_) (fun c32 => ?_)
      · have h := it_t c32 h
        refine lv_iload_n C.1 C.2.1 dX2_earliestRay_60 rfl (lv_at hl 2 rfl) ?_
        refine lv_istore_n (lv' := [(1, .int x2), (0, .ref (tad θ 0)), (2, .int x2)]) C.1 C.2.1 dX2_earliestRay_61 rfl hl (by decide) rfl (fun ls hl => ?_)
        refine lv_iinc (v := (x2 + 1)) (lv' := [(2, .int (x2 + 1)), (1, .int x2), (0, .ref (tad θ 0))]) C.1 C.2.1 dX2_earliestRay_62 hl (k := 2) rfl rfl (by decide) rfl (fun ls hl => ?_)
        refine lv_goto (tgt := 4) C.1 C.2.1 dX2_earliestRay_65 (by decide) ?_
        exact hk4 _ _ _ _ _ h _ _ ls (lv_sub hl [2, 1, 0] rfl) hw hS
      · have h := it_f c32 h
        refine lv_aload_n C.1 C.2.1 dX2_earliestRay_35 rfl (lv_at hl 0 rfl) ?_
        refine lv_aload_n C.1 C.2.1 dX2_earliestRay_36 rfl (lv_at hl 0 rfl) ?_
        refine gf_X2_cone C hw w_130 dX2_earliestRay_37 ?_
        refine gf_X0_rays C hw w_109 dX2_earliestRay_40 ?_
        refine lv_iload_n C.1 C.2.1 dX2_earliestRay_43 rfl (lv_at hl 2 rfl) ?_
        obtain ⟨v44, h44, h⟩ := bind_s h
        refine k_aald C hw 2 (by decide) h44 dX2_earliestRay_44 ?_
        refine lv_aload_n C.1 C.2.1 dX2_earliestRay_45 rfl (lv_at hl 0 rfl) ?_
        refine gf_X2_cone C hw w_130 dX2_earliestRay_46 ?_
        refine gf_X0_rays C hw w_109 dX2_earliestRay_49 ?_
        refine lv_iload_n C.1 C.2.1 dX2_earliestRay_52 rfl (lv_at hl 1 rfl) ?_
        obtain ⟨v53, h53, h⟩ := bind_s h
        refine k_aald C hw 2 (by decide) h53 dX2_earliestRay_53 ?_
        obtain ⟨⟨r54, M54⟩, h54, h⟩ := bind_s h
        dsimp only at h
        refine k_ci (k_runV (As := [.ref (tad θ (22 + v44)), .ref (tad θ (22 + v53))]) C cf_X2_isEarlier cv_X2_isEarlier w_227 rc0 (c_X2_isEarlier θ l N h54) ⟨rfl, rfl, Nat.le_of_ble_eq_true rfl, Nat.le_of_ble_eq_true rfl⟩ rfl hl.1 rfl (Nat.le_of_ble_eq_true rfl) dX2_earliestRay_54 ⟨Nat.zero_le _, Nat.zero_le _⟩ hw) hS (fun H locs hw hS => ?_)
        refine lv_if_eq (tgt := 62) C.1 C.2.1 dX2_earliestRay_57 (by decide) (fun c57 => ?_) (fun c57 => ?_)
        · have h := it_t c57 h
          refine lv_iinc (v := (x2 + 1)) (lv' := [(2, .int (x2 + 1)), (0, .ref (tad θ 0)), (1, .int x1)]) C.1 C.2.1 dX2_earliestRay_62 hl (k := 2) rfl rfl (by decide) rfl (fun ls hl => ?_)
          refine lv_goto (tgt := 4) C.1 C.2.1 dX2_earliestRay_65 (by decide) ?_
          exact hk4 _ _ _ _ _ h _ _ ls (lv_sub hl [1, 2, 0] rfl) hw hS
        · have h := it_f c57 h
          refine lv_iload_n C.1 C.2.1 dX2_earliestRay_60 rfl (lv_at hl 2 rfl) ?_
          refine lv_istore_n (lv' := [(1, .int x2), (0, .ref (tad θ 0)), (2, .int x2)]) C.1 C.2.1 dX2_earliestRay_61 rfl hl (by decide) rfl (fun ls hl => ?_)
          refine lv_iinc (v := (x2 + 1)) (lv' := [(2, .int (x2 + 1)), (1, .int x2), (0, .ref (tad θ 0))]) C.1 C.2.1 dX2_earliestRay_62 hl (k := 2) rfl rfl (by decide) rfl (fun ls hl => ?_)
          refine lv_goto (tgt := 4) C.1 C.2.1 dX2_earliestRay_65 (by decide) ?_
          exact hk4 _ _ _ _ _ h _ _ ls (lv_sub hl [2, 1, 0] rfl) hw hS
theorem t_X2_earliestRay_4 {θ : Th} {p : Program} {l : Launch} {e : Env} {s : State} {m : MethodId} {args : Array Value} {below : List Frame} {meth : Method} {c : Code} (C : Cx θ p s m args meth c cX2_earliestRay 3 RX2 (some .int)) (N : Nat) : J_X2_earliestRay_4 θ p l e s m args below meth c (b_X2_earliestRay_4 N) := lpT_ind (J := J_X2_earliestRay_4 θ p l e s m args below meth c) (fun _ _ _ _ _ h => by cases h) (fun k hk => tF_X2_earliestRay_4 C N hk) N
def b_X2_earliestRay_0 (N : Nat) (M : Mm) : Option (Int32 × Mm) :=
  b_X2_earliestRay_4 N (-1) 0 M
set_option maxRecDepth 100000 in
set_option maxHeartbeats 4000000 in
theorem t_X2_earliestRay_0 {θ : Th} {p : Program} {l : Launch} {e : Env} {s : State} {m : MethodId} {args : Array Value} {below : List Frame} {meth : Method} {c : Code} (C : Cx θ p s m args meth c cX2_earliestRay 3 RX2 (some .int)) (N : Nat) : J_X2_earliestRay_0 θ p l e s m args below meth c (b_X2_earliestRay_0 N) := by
  intro M r M1 h H locs ls hl hw hS
  unfold b_X2_earliestRay_0 at h
  refine lv_iconst (v := (-1)) C.1 C.2.1 dX2_earliestRay_0 (by decide) ?_
  refine lv_istore_n (lv' := [(1, .int (-1)), (0, .ref (tad θ 0))]) C.1 C.2.1 dX2_earliestRay_1 rfl hl (by decide) rfl (fun ls hl => ?_)
  refine lv_iconst (v := 0) C.1 C.2.1 dX2_earliestRay_2 (by decide) ?_
  refine lv_istore_n (lv' := [(2, .int 0), (1, .int (-1)), (0, .ref (tad θ 0))]) C.1 C.2.1 dX2_earliestRay_3 rfl hl (by decide) rfl (fun ls hl => ?_)
  exact t_X2_earliestRay_4 C N _ _ _ _ _ h _ _ ls (lv_sub hl [2, 1, 0] rfl) hw hS
def f_X2_earliestRay (N : Nat) (M : Mm) : Option (Int32 × Mm) := b_X2_earliestRay_0 N M
set_option maxRecDepth 100000 in
theorem c_X2_earliestRay (θ : Th) (l : Launch) (N : Nat) {M : Mm} {r : Int32} {M1 : Mm} (h : f_X2_earliestRay N M = some (r, M1)) : Met l yX2_earliestRay (gws yX2_earliestRay cX2_earliestRay 3 (some .int)) rm_X2_earliestRay (va_Pc [.ref (tad θ 0)] (wU θ M)) (qI θ r M1) 0 0 (tA θ) :=
  k_met (by decide +kernel) (Nat.le_of_ble_eq_true rfl) (fun p e s m args below meth c C ls hl hw => t_X2_earliestRay_0 C N _ _ _ h _ _ ls (lv_sub hl [0] rfl) hw va_S.rf)
abbrev rm_X2_liftAbove : Room := { frames := 1, cells := 0, slots := 0, locals := 24 }
def J_X2_liftAbove_0 (θ : Th) (p : Program) (l : Launch) (e : Env) (s : State) (m : MethodId) (args : Array Value) (below : List Frame) (meth : Method) (c : Code) (g : Nat → Nat → Nat → Mm → Option (Int64 × Mm)) : Prop := ∀ (x1 : Nat) (x2 : Nat) (x3 : Nat) (M : Mm) (r : Int64) (M1 : Mm), g x1 x2 x3 M = some (r, M1) → ∀ (H : Heap) (locs : List Loc) (ls : Array Slot), lv_has ls 4 [(0, .ref (tad θ 0)), (1, .ref (tad θ (22 + x1))), (2, .ref (tad θ (22 + x2))), (3, .ref (tad θ (22 + x3)))] → wd θ M H → va_S (tA θ) s.heap H locs → W p l e rm_X2_liftAbove s m args below meth c H locs 0 0 (MQ below (qL θ r M1) args s 0 0 (tA θ)) (F0 m 0 ls [])
def b_X2_liftAbove_0 (N : Nat) (x1 : Nat) (x2 : Nat) (x3 : Nat) (M : Mm) : Option (Int64 × Mm) :=
  (f_X1_worth N x3 M).bind fun (r5, M5) => (rL M5 x1 0).bind fun v10 => (rL M5 x2 1).bind fun v13 => (rL M5 x1 1).bind fun v17 => (rL M5 x2 0).bind fun v20 => (f_X1_worth N x2 M5).bind fun (r29, M29) => (rL M29 x1 0).bind fun v34 => (rL M29 x3 1).bind fun v37 => (rL M29 x1 1).bind fun v41 => (rL M29 x3 0).bind fun v44 => (f_X1_worth N x1 M29).bind fun (r54, M54) => (rL M54 x2 0).bind fun v59 => (rL M54 x3 1).bind fun v62 => (rL M54 x2 1).bind fun v66 => (rL M54 x3 0).bind fun v69 => some ((((r5 * ((v10 * v13) - (v17 * v20))) - (r29 * ((v34 * v37) - (v41 * v44)))) + (r54 * ((v59 * v62) - (v66 * v69)))), M54)
set_option maxRecDepth 100000 in
set_option maxHeartbeats 4000000 in
theorem t_X2_liftAbove_0 {θ : Th} {p : Program} {l : Launch} {e : Env} {s : State} {m : MethodId} {args : Array Value} {below : List Frame} {meth : Method} {c : Code} (C : Cx θ p s m args meth c cX2_liftAbove 4 RX2 (some .long)) (N : Nat) : J_X2_liftAbove_0 θ p l e s m args below meth c (b_X2_liftAbove_0 N) := by
  intro x1 x2 x3 M r M1 h H locs ls hl hw hS
  unfold b_X2_liftAbove_0 at h
  refine lv_aload_n C.1 C.2.1 dX2_liftAbove_0 rfl (lv_at hl 0 rfl) ?_
  refine gf_X2_sheet C hw w_129 dX2_liftAbove_1 ?_
  refine lv_aload_n C.1 C.2.1 dX2_liftAbove_4 rfl (lv_at hl 3 rfl) ?_
  obtain ⟨⟨r5, M5⟩, h5, h⟩ := bind_s h
  dsimp only at h
  refine k_cl (k_runV (As := [.ref (tad θ (22 + x3))]) C cf_X1_worth cv_X1_worth w_211 rc1 (c_X1_worth θ l N h5) ⟨rfl, rfl, Nat.le_of_ble_eq_true rfl, Nat.le_of_ble_eq_true rfl⟩ rfl hl.1 rfl (Nat.le_of_ble_eq_true rfl) dX2_liftAbove_5 ⟨Nat.zero_le _, Nat.zero_le _⟩ hw) hS (fun H locs hw hS => ?_)
  refine lv_aload_n C.1 C.2.1 dX2_liftAbove_8 rfl (lv_at hl 1 rfl) ?_
  refine lv_iconst (v := 0) C.1 C.2.1 dX2_liftAbove_9 (by decide) ?_
  obtain ⟨v10, h10, h⟩ := bind_s h
  refine k_lald C hw x1 h10 dX2_liftAbove_10 ?_
  refine lv_aload_n C.1 C.2.1 dX2_liftAbove_11 rfl (lv_at hl 2 rfl) ?_
  refine lv_iconst (v := 1) C.1 C.2.1 dX2_liftAbove_12 (by decide) ?_
  obtain ⟨v13, h13, h⟩ := bind_s h
  refine k_lald C hw x2 h13 dX2_liftAbove_13 ?_
  refine lv_lmul C.1 C.2.1 dX2_liftAbove_14 ?_
  refine lv_aload_n C.1 C.2.1 dX2_liftAbove_15 rfl (lv_at hl 1 rfl) ?_
  refine lv_iconst (v := 1) C.1 C.2.1 dX2_liftAbove_16 (by decide) ?_
  obtain ⟨v17, h17, h⟩ := bind_s h
  refine k_lald C hw x1 h17 dX2_liftAbove_17 ?_
  refine lv_aload_n C.1 C.2.1 dX2_liftAbove_18 rfl (lv_at hl 2 rfl) ?_
  refine lv_iconst (v := 0) C.1 C.2.1 dX2_liftAbove_19 (by decide) ?_
  obtain ⟨v20, h20, h⟩ := bind_s h
  refine k_lald C hw x2 h20 dX2_liftAbove_20 ?_
  refine lv_lmul C.1 C.2.1 dX2_liftAbove_21 ?_
  refine lv_lsub C.1 C.2.1 dX2_liftAbove_22 ?_
  refine lv_lmul C.1 C.2.1 dX2_liftAbove_23 ?_
  refine lv_aload_n C.1 C.2.1 dX2_liftAbove_24 rfl (lv_at hl 0 rfl) ?_
  refine gf_X2_sheet C hw w_129 dX2_liftAbove_25 ?_
  refine lv_aload_n C.1 C.2.1 dX2_liftAbove_28 rfl (lv_at hl 2 rfl) ?_
  obtain ⟨⟨r29, M29⟩, h29, h⟩ := bind_s h
  dsimp only at h
  refine k_cl (k_runV (As := [.ref (tad θ (22 + x2))]) C cf_X1_worth cv_X1_worth w_211 rc1 (c_X1_worth θ l N h29) ⟨rfl, rfl, Nat.le_of_ble_eq_true rfl, Nat.le_of_ble_eq_true rfl⟩ rfl hl.1 rfl (Nat.le_of_ble_eq_true rfl) dX2_liftAbove_29 ⟨Nat.zero_le _, Nat.zero_le _⟩ hw) hS (fun H locs hw hS => ?_)
  refine lv_aload_n C.1 C.2.1 dX2_liftAbove_32 rfl (lv_at hl 1 rfl) ?_
  refine lv_iconst (v := 0) C.1 C.2.1 dX2_liftAbove_33 (by decide) ?_
  obtain ⟨v34, h34, h⟩ := bind_s h
  refine k_lald C hw x1 h34 dX2_liftAbove_34 ?_
  refine lv_aload_n C.1 C.2.1 dX2_liftAbove_35 rfl (lv_at hl 3 rfl) ?_
  refine lv_iconst (v := 1) C.1 C.2.1 dX2_liftAbove_36 (by decide) ?_
  obtain ⟨v37, h37, h⟩ := bind_s h
  refine k_lald C hw x3 h37 dX2_liftAbove_37 ?_
  refine lv_lmul C.1 C.2.1 dX2_liftAbove_38 ?_
  refine lv_aload_n C.1 C.2.1 dX2_liftAbove_39 rfl (lv_at hl 1 rfl) ?_
  refine lv_iconst (v := 1) C.1 C.2.1 dX2_liftAbove_40 (by decide) ?_
  obtain ⟨v41, h41, h⟩ := bind_s h
  refine k_lald C hw x1 h41 dX2_liftAbove_41 ?_
  refine lv_aload_n C.1 C.2.1 dX2_liftAbove_42 rfl (lv_at hl 3 rfl) ?_
  refine lv_iconst (v := 0) C.1 C.2.1 dX2_liftAbove_43 (by decide) ?_
  obtain ⟨v44, h44, h⟩ := bind_s h
  refine k_lald C hw x3 h44 dX2_liftAbove_44 ?_
  refine lv_lmul C.1 C.2.1 dX2_liftAbove_45 ?_
  refine lv_lsub C.1 C.2.1 dX2_liftAbove_46 ?_
  refine lv_lmul C.1 C.2.1 dX2_liftAbove_47 ?_
  refine lv_lsub C.1 C.2.1 dX2_liftAbove_48 ?_
  refine lv_aload_n C.1 C.2.1 dX2_liftAbove_49 rfl (lv_at hl 0 rfl) ?_
  refine gf_X2_sheet C hw w_129 dX2_liftAbove_50 ?_
  refine lv_aload_n C.1 C.2.1 dX2_liftAbove_53 rfl (lv_at hl 1 rfl) ?_
  obtain ⟨⟨r54, M54⟩, h54, h⟩ := bind_s h
  dsimp only at h
  refine k_cl (k_runV (As := [.ref (tad θ (22 + x1))]) C cf_X1_worth cv_X1_worth w_211 rc1 (c_X1_worth θ l N h54) ⟨rfl, rfl, Nat.le_of_ble_eq_true rfl, Nat.le_of_ble_eq_true rfl⟩ rfl hl.1 rfl (Nat.le_of_ble_eq_true rfl) dX2_liftAbove_54 ⟨Nat.zero_le _, Nat.zero_le _⟩ hw) hS (fun H locs hw hS => ?_)
  refine lv_aload_n C.1 C.2.1 dX2_liftAbove_57 rfl (lv_at hl 2 rfl) ?_
  refine lv_iconst (v := 0) C.1 C.2.1 dX2_liftAbove_58 (by decide) ?_
  obtain ⟨v59, h59, h⟩ := bind_s h
  refine k_lald C hw x2 h59 dX2_liftAbove_59 ?_
  refine lv_aload_n C.1 C.2.1 dX2_liftAbove_60 rfl (lv_at hl 3 rfl) ?_
  refine lv_iconst (v := 1) C.1 C.2.1 dX2_liftAbove_61 (by decide) ?_
  obtain ⟨v62, h62, h⟩ := bind_s h
  refine k_lald C hw x3 h62 dX2_liftAbove_62 ?_
  refine lv_lmul C.1 C.2.1 dX2_liftAbove_63 ?_
  refine lv_aload_n C.1 C.2.1 dX2_liftAbove_64 rfl (lv_at hl 2 rfl) ?_
  refine lv_iconst (v := 1) C.1 C.2.1 dX2_liftAbove_65 (by decide) ?_
  obtain ⟨v66, h66, h⟩ := bind_s h
  refine k_lald C hw x2 h66 dX2_liftAbove_66 ?_
  refine lv_aload_n C.1 C.2.1 dX2_liftAbove_67 rfl (lv_at hl 3 rfl) ?_
  refine lv_iconst (v := 0) C.1 C.2.1 dX2_liftAbove_68 (by decide) ?_
  obtain ⟨v69, h69, h⟩ := bind_s h
  refine k_lald C hw x3 h69 dX2_liftAbove_69 ?_
  refine lv_lmul C.1 C.2.1 dX2_liftAbove_70 ?_
  refine lv_lsub C.1 C.2.1 dX2_liftAbove_71 ?_
  refine lv_lmul C.1 C.2.1 dX2_liftAbove_72 ?_
  refine lv_ladd C.1 C.2.1 dX2_liftAbove_73 ?_
  cases h
  exact k_retl C hw hS dX2_liftAbove_74
def f_X2_liftAbove (N : Nat) (x1 : Nat) (x2 : Nat) (x3 : Nat) (M : Mm) : Option (Int64 × Mm) := b_X2_liftAbove_0 N x1 x2 x3 M
set_option maxRecDepth 100000 in
theorem c_X2_liftAbove (θ : Th) (l : Launch) (N : Nat) {x1 : Nat} {x2 : Nat} {x3 : Nat} {M : Mm} {r : Int64} {M1 : Mm} (h : f_X2_liftAbove N x1 x2 x3 M = some (r, M1)) : Met l yX2_liftAbove (gws yX2_liftAbove cX2_liftAbove 4 (some .long)) rm_X2_liftAbove (va_Pc [.ref (tad θ 0), .ref (tad θ (22 + x1)), .ref (tad θ (22 + x2)), .ref (tad θ (22 + x3))] (wU θ M)) (qL θ r M1) 0 0 (tA θ) :=
  k_met (by decide +kernel) (Nat.le_of_ble_eq_true rfl) (fun p e s m args below meth c C ls hl hw => t_X2_liftAbove_0 C N _ _ _ _ _ _ h _ _ ls (lv_sub hl [0, 1, 2, 3] rfl) hw va_S.rf)
abbrev rm_X2_isSteeper : Room := { frames := 2, cells := 0, slots := 0, locals := 47 }
def J_X2_isSteeper_0 (θ : Th) (p : Program) (l : Launch) (e : Env) (s : State) (m : MethodId) (args : Array Value) (below : List Frame) (meth : Method) (c : Code) (g : Nat → Nat → Nat → Mm → Option (Int32 × Mm)) : Prop := ∀ (x1 : Nat) (x2 : Nat) (x3 : Nat) (M : Mm) (r : Int32) (M1 : Mm), g x1 x2 x3 M = some (r, M1) → ∀ (H : Heap) (locs : List Loc) (ls : Array Slot), lv_has ls 6 [(0, .ref (tad θ 0)), (1, .ref (tad θ (22 + x1))), (2, .ref (tad θ (22 + x2))), (3, .ref (tad θ (22 + x3)))] → wd θ M H → va_S (tA θ) s.heap H locs → W p l e rm_X2_isSteeper s m args below meth c H locs 0 0 (MQ below (qI θ r M1) args s 0 0 (tA θ)) (F0 m 0 ls [])
def b_X2_isSteeper_0 (N : Nat) (x1 : Nat) (x2 : Nat) (x3 : Nat) (M : Mm) : Option (Int32 × Mm) :=
  (f_X2_liftAbove N x1 x3 x2 M).bind fun (r4, M4) => (if (lg_cmp r4 0) = 0 then (f_X2_compareTimes N x2 x3 M4).bind fun (r31, M31) => (if r31 ≤ 0 then some (0, M31) else some (1, M31)) else (if (lg_cmp r4 0) ≤ 0 then some (0, M4) else some (1, M4)))
set_option maxRecDepth 100000 in
set_option maxHeartbeats 4000000 in
theorem t_X2_isSteeper_0 {θ : Th} {p : Program} {l : Launch} {e : Env} {s : State} {m : MethodId} {args : Array Value} {below : List Frame} {meth : Method} {c : Code} (C : Cx θ p s m args meth c cX2_isSteeper 6 RX2 (some .boolean)) (N : Nat) : J_X2_isSteeper_0 θ p l e s m args below meth c (b_X2_isSteeper_0 N) := by
  intro x1 x2 x3 M r M1 h H locs ls hl hw hS
  unfold b_X2_isSteeper_0 at h
  refine lv_aload_n C.1 C.2.1 dX2_isSteeper_0 rfl (lv_at hl 0 rfl) ?_
  refine lv_aload_n C.1 C.2.1 dX2_isSteeper_1 rfl (lv_at hl 1 rfl) ?_
  refine lv_aload_n C.1 C.2.1 dX2_isSteeper_2 rfl (lv_at hl 3 rfl) ?_
  refine lv_aload_n C.1 C.2.1 dX2_isSteeper_3 rfl (lv_at hl 2 rfl) ?_
  obtain ⟨⟨r4, M4⟩, h4, h⟩ := bind_s h
  dsimp only at h
  refine k_cl (k_runV (As := [.ref (tad θ (22 + x1)), .ref (tad θ (22 + x3)), .ref (tad θ (22 + x2))]) C cf_X2_liftAbove cv_X2_liftAbove w_245 rc0 (c_X2_liftAbove θ l N h4) ⟨rfl, rfl, Nat.le_of_ble_eq_true rfl, Nat.le_of_ble_eq_true rfl⟩ rfl hl.1 rfl (Nat.le_of_ble_eq_true rfl) dX2_isSteeper_4 ⟨Nat.zero_le _, Nat.zero_le _⟩ hw) hS (fun H locs hw hS => ?_)
  refine lv_lstore (lv' := [(4, .long r4), (0, .ref (tad θ 0)), (1, .ref (tad θ (22 + x1))), (2, .ref (tad θ (22 + x2))), (3, .ref (tad θ (22 + x3)))]) C.1 C.2.1 dX2_isSteeper_7 hl (by decide) rfl (fun ls hl => ?_)
  refine lv_lload C.1 C.2.1 dX2_isSteeper_9 (lv_at hl 0 rfl) ?_
  refine lv_lconst (v := 0) C.1 C.2.1 dX2_isSteeper_11 (by decide) ?_
  refine W.lcmp C.1 C.2.1 dX2_isSteeper_12 ?_
  refine lv_if_eq (tgt := 29) C.1 C.2.1 dX2_isSteeper_13 (by decide) (fun c13 => ?_) (fun c13 => ?_)
  · have h := it_t c13 h
    refine lv_aload_n C.1 C.2.1 dX2_isSteeper_29 rfl (lv_at hl 3 rfl) ?_
    refine lv_aload_n C.1 C.2.1 dX2_isSteeper_30 rfl (lv_at hl 4 rfl) ?_
    obtain ⟨⟨r31, M31⟩, h31, h⟩ := bind_s h
    dsimp only at h
    refine k_ci (k_runS (As := [.ref (tad θ (22 + x2)), .ref (tad θ (22 + x3))]) C cf_X2_compareTimes cs_X2_compareTimes w_231 (c_X2_compareTimes θ l N h31) ⟨rfl, rfl, Nat.le_of_ble_eq_true rfl, Nat.le_of_ble_eq_true rfl⟩ rfl hl.1 rfl (Nat.le_of_ble_eq_true rfl) dX2_isSteeper_31 ⟨Nat.zero_le _, Nat.zero_le _⟩ hw) hS (fun H locs hw hS => ?_)
    refine lv_if_le (tgt := 41) C.1 C.2.1 dX2_isSteeper_34 (by decide) (fun c34 => ?_) (fun c34 => ?_)
    · have h := it_t c34 h
      refine lv_iconst (v := 0) C.1 C.2.1 dX2_isSteeper_41 (by decide) ?_
      cases h
      exact k_retz C hw hS (Or.inl rfl) dX2_isSteeper_42
    · have h := it_f c34 h
      refine lv_iconst (v := 1) C.1 C.2.1 dX2_isSteeper_37 (by decide) ?_
      refine lv_goto (tgt := 42) C.1 C.2.1 dX2_isSteeper_38 (by decide) ?_
      cases h
      exact k_retz C hw hS (Or.inr rfl) dX2_isSteeper_42
  · have h := it_f c13 h
    refine lv_lload C.1 C.2.1 dX2_isSteeper_16 (lv_at hl 0 rfl) ?_
    refine lv_lconst (v := 0) C.1 C.2.1 dX2_isSteeper_18 (by decide) ?_
    refine W.lcmp C.1 C.2.1 dX2_isSteeper_19 ?_
    refine lv_if_le (tgt := 27) C.1 C.2.1 dX2_isSteeper_20 (by decide) (fun c20 => ?_) (fun c20 => ?_)
    · have h := it_t c20 h
      refine lv_iconst (v := 0) C.1 C.2.1 dX2_isSteeper_27 (by decide) ?_
      cases h
      exact k_retz C hw hS (Or.inl rfl) dX2_isSteeper_28
    · have h := it_f c20 h
      refine lv_iconst (v := 1) C.1 C.2.1 dX2_isSteeper_23 (by decide) ?_
      refine lv_goto (tgt := 28) C.1 C.2.1 dX2_isSteeper_24 (by decide) ?_
      cases h
      exact k_retz C hw hS (Or.inr rfl) dX2_isSteeper_28
def f_X2_isSteeper (N : Nat) (x1 : Nat) (x2 : Nat) (x3 : Nat) (M : Mm) : Option (Int32 × Mm) := b_X2_isSteeper_0 N x1 x2 x3 M
set_option maxRecDepth 100000 in
theorem c_X2_isSteeper (θ : Th) (l : Launch) (N : Nat) {x1 : Nat} {x2 : Nat} {x3 : Nat} {M : Mm} {r : Int32} {M1 : Mm} (h : f_X2_isSteeper N x1 x2 x3 M = some (r, M1)) : Met l yX2_isSteeper (gws yX2_isSteeper cX2_isSteeper 6 (some .boolean)) rm_X2_isSteeper (va_Pc [.ref (tad θ 0), .ref (tad θ (22 + x1)), .ref (tad θ (22 + x2)), .ref (tad θ (22 + x3))] (wU θ M)) (qI θ r M1) 0 0 (tA θ) :=
  k_met (by decide +kernel) (Nat.le_of_ble_eq_true rfl) (fun p e s m args below meth c C ls hl hw => t_X2_isSteeper_0 C N _ _ _ _ _ _ h _ _ ls (lv_sub hl [0, 1, 2, 3] rfl) hw va_S.rf)
abbrev rm_X2_followingRay : Room := { frames := 3, cells := 0, slots := 0, locals := 72 }
def J_X2_followingRay_61 (θ : Th) (p : Program) (l : Launch) (e : Env) (s : State) (m : MethodId) (args : Array Value) (below : List Frame) (meth : Method) (c : Code) (g : Nat → Int32 → Int32 → Nat → Int32 → Mm → Option (Int32 × Mm)) : Prop := ∀ (x2 : Nat) (x3 : Int32) (x4 : Int32) (x5 : Nat) (s0 : Int32) (M : Mm) (r : Int32) (M1 : Mm), g x2 x3 x4 x5 s0 M = some (r, M1) → ∀ (H : Heap) (locs : List Loc) (ls : Array Slot), lv_has ls 7 [(0, .ref (tad θ 0)), (2, .ref (tad θ (22 + x2))), (3, .int x3), (4, .int x4), (5, .ref (tad θ (22 + x5)))] → wd θ M H → va_S (tA θ) s.heap H locs → W p l e rm_X2_followingRay s m args below meth c H locs 0 0 (MQ below (qI θ r M1) args s 0 0 (tA θ)) (F0 m 61 ls [.int s0])
def J_X2_followingRay_60 (θ : Th) (p : Program) (l : Launch) (e : Env) (s : State) (m : MethodId) (args : Array Value) (below : List Frame) (meth : Method) (c : Code) (g : Nat → Int32 → Int32 → Nat → Mm → Option (Int32 × Mm)) : Prop := ∀ (x2 : Nat) (x3 : Int32) (x4 : Int32) (x5 : Nat) (M : Mm) (r : Int32) (M1 : Mm), g x2 x3 x4 x5 M = some (r, M1) → ∀ (H : Heap) (locs : List Loc) (ls : Array Slot), lv_has ls 7 [(0, .ref (tad θ 0)), (2, .ref (tad θ (22 + x2))), (3, .int x3), (4, .int x4), (5, .ref (tad θ (22 + x5)))] → wd θ M H → va_S (tA θ) s.heap H locs → W p l e rm_X2_followingRay s m args below meth c H locs 0 0 (MQ below (qI θ r M1) args s 0 0 (tA θ)) (F0 m 60 ls [])
def J_X2_followingRay_15 (θ : Th) (p : Program) (l : Launch) (e : Env) (s : State) (m : MethodId) (args : Array Value) (below : List Frame) (meth : Method) (c : Code) (g : Nat → Int32 → Int32 → Mm → Option (Int32 × Mm)) : Prop := ∀ (x2 : Nat) (x3 : Int32) (x4 : Int32) (M : Mm) (r : Int32) (M1 : Mm), g x2 x3 x4 M = some (r, M1) → ∀ (H : Heap) (locs : List Loc) (ls : Array Slot), lv_has ls 7 [(0, .ref (tad θ 0)), (2, .ref (tad θ (22 + x2))), (3, .int x3), (4, .int x4)] → wd θ M H → va_S (tA θ) s.heap H locs → W p l e rm_X2_followingRay s m args below meth c H locs 0 0 (MQ below (qI θ r M1) args s 0 0 (tA θ)) (F0 m 15 ls [])
def J_X2_followingRay_0 (θ : Th) (p : Program) (l : Launch) (e : Env) (s : State) (m : MethodId) (args : Array Value) (below : List Frame) (meth : Method) (c : Code) (g : Int32 → Mm → Option (Int32 × Mm)) : Prop := ∀ (x1 : Int32) (M : Mm) (r : Int32) (M1 : Mm), g x1 M = some (r, M1) → ∀ (H : Heap) (locs : List Loc) (ls : Array Slot), lv_has ls 7 [(0, .ref (tad θ 0)), (1, .int x1)] → wd θ M H → va_S (tA θ) s.heap H locs → W p l e rm_X2_followingRay s m args below meth c H locs 0 0 (MQ below (qI θ r M1) args s 0 0 (tA θ)) (F0 m 0 ls [])
def b_X2_followingRay_61 (N : Nat) (k15 : Nat → Int32 → Int32 → Mm → Option (Int32 × Mm)) (x2 : Nat) (x3 : Int32) (x4 : Int32) (x5 : Nat) (s0 : Int32) (M : Mm) : Option (Int32 × Mm) :=
  (if s0 = 0 then k15 x2 x3 (x4 + 1) M else (if x3 = (-1) then k15 x2 x4 (x4 + 1) M else (rO 2 x3).bind fun v85 => (f_X2_isSteeper N x2 x5 v85 M).bind fun (r86, M86) => (if r86 = 0 then k15 x2 x3 (x4 + 1) M86 else k15 x2 x4 (x4 + 1) M86)))
set_option maxRecDepth 100000 in
set_option maxHeartbeats 4000000 in
theorem t_X2_followingRay_61 {θ : Th} {p : Program} {l : Launch} {e : Env} {s : State} {m : MethodId} {args : Array Value} {below : List Frame} {meth : Method} {c : Code} (C : Cx θ p s m args meth c cX2_followingRay 7 RX2 (some .int)) (N : Nat) {k15 : Nat → Int32 → Int32 → Mm → Option (Int32 × Mm)} (hk15 : J_X2_followingRay_15 θ p l e s m args below meth c k15) : J_X2_followingRay_61 θ p l e s m args below meth c (b_X2_followingRay_61 N k15) := by
  intro x2 x3 x4 x5 s0 M r M1 h H locs ls hl hw hS
  unfold b_X2_followingRay_61 at h
  refine lv_istore (lv' := [(6, .int s0), (0, .ref (tad θ 0)), (2, .ref (tad θ (22 + x2))), (3, .int x3), (4, .int x4), (5, .ref (tad θ (22 + x5)))]) C.1 C.2.1 dX2_followingRay_61 hl (by decide) rfl (fun ls hl => ?_)
  refine lv_iload C.1 C.2.1 dX2_followingRay_63 (lv_at hl 0 rfl) ?_
  refine lv_if_eq (tgt := 95) C.1 C.2.1 dX2_followingRay_65 (by decide) (fun c65 => ?_) (fun c65 => ?_)
  · have h := it_t c65 h
    refine lv_iinc (v := (x4 + 1)) (lv' := [(4, .int (x4 + 1)), (6, .int s0), (0, .ref (tad θ 0)), (2, .ref (tad θ (22 + x2))), (3, .int x3), (5, .ref (tad θ (22 + x5)))]) C.1 C.2.1 dX2_followingRay_95 hl (k := 4) rfl rfl (by decide) rfl (fun ls hl => ?_)
    refine lv_goto (tgt := 15) C.1 C.2.1 dX2_followingRay_98 (by decide) ?_
    exact hk15 _ _ _ _ _ _ h _ _ ls (lv_sub hl [2, 3, 4, 0] rfl) hw hS
  · have h := it_f c65 h
    refine lv_iload_n C.1 C.2.1 dX2_followingRay_68 rfl (lv_at hl 3 rfl) ?_
    refine lv_iconst (v := (-1)) C.1 C.2.1 dX2_followingRay_69 (by decide) ?_
    refine lv_icmp_eq (tgt := 92) C.1 C.2.1 dX2_followingRay_70 (by decide) (fun c70 => ?_) (fun c70 => ?_)
    · have h := it_t c70 h
      refine lv_iload C.1 C.2.1 dX2_followingRay_92 (lv_at hl 4 rfl) ?_
      refine lv_istore_n (lv' := [(3, .int x4), (6, .int s0), (0, .ref (tad θ 0)), (2, .ref (tad θ (22 + x2))), (4, .int x4), (5, .ref (tad θ (22 + x5)))]) C.1 C.2.1 dX2_followingRay_94 rfl hl (by decide) rfl (fun ls hl => ?_)
      refine lv_iinc (v := (x4 + 1)) (lv' := [(4, .int (x4 + 1)), (3, .int x4), (6, .int s0), (0, .ref (tad θ 0)), (2, .ref (tad θ (22 + x2))), (5, .ref (tad θ (22 + x5)))]) C.1 C.2.1 dX2_followingRay_95 hl (k := 4) rfl rfl (by decide) rfl (fun ls hl => ?_)
      refine lv_goto (tgt := 15) C.1 C.2.1 dX2_followingRay_98 (by decide) ?_
      exact hk15 _ _ _ _ _ _ h _ _ ls (lv_sub hl [3, 4, 1, 0] rfl) hw hS
    · have h := it_f c70 h
      refine lv_aload_n C.1 C.2.1 dX2_followingRay_73 rfl (lv_at hl 1 rfl) ?_
      refine lv_aload_n C.1 C.2.1 dX2_followingRay_74 rfl (lv_at hl 2 rfl) ?_
      refine lv_aload C.1 C.2.1 dX2_followingRay_75 (lv_at hl 5 rfl) ?_
      refine lv_aload_n C.1 C.2.1 dX2_followingRay_77 rfl (lv_at hl 1 rfl) ?_
      refine gf_X2_cone C hw w_130 dX2_followingRay_78 ?_
      refine gf_X0_rays C hw w_109 dX2_followingRay_81 ?_
      refine lv_iload_n C.1 C.2.1 dX2_followingRay_84 rfl (lv_at hl 3 rfl) ?_
      obtain ⟨v85, h85, h⟩ := bind_s h
      refine k_aald C hw 2 (by decide) h85 dX2_followingRay_85 ?_
      obtain ⟨⟨r86, M86⟩, h86, h⟩ := bind_s h
      dsimp only at h
      refine k_ci (k_runV (As := [.ref (tad θ (22 + x2)), .ref (tad θ (22 + x5)), .ref (tad θ (22 + v85))]) C cf_X2_isSteeper cv_X2_isSteeper w_241 rc0 (c_X2_isSteeper θ l N h86) ⟨rfl, rfl, Nat.le_of_ble_eq_true rfl, Nat.le_of_ble_eq_true rfl⟩ rfl hl.1 rfl (Nat.le_of_ble_eq_true rfl) dX2_followingRay_86 ⟨Nat.zero_le _, Nat.zero_le _⟩ hw) hS (fun H locs hw hS => ?_)
      refine lv_if_eq (tgt := 95) C.1 C.2.1 dX2_followingRay_89 (by decide) (fun c89 => ?_) (fun c89 => ?_)
      · have h := it_t c89 h
        refine lv_iinc (v := (x4 + 1)) (lv' := [(4, .int (x4 + 1)), (6, .int s0), (0, .ref (tad θ 0)), (2, .ref (tad θ (22 + x2))), (3, .int x3), (5, .ref (tad θ (22 + x5)))]) C.1 C.2.1 dX2_followingRay_95 hl (k := 4) rfl rfl (by decide) rfl (fun ls hl => ?_)
        refine lv_goto (tgt := 15) C.1 C.2.1 dX2_followingRay_98 (by decide) ?_
        exact hk15 _ _ _ _ _ _ h _ _ ls (lv_sub hl [2, 3, 4, 0] rfl) hw hS
      · have h := it_f c89 h
        refine lv_iload C.1 C.2.1 dX2_followingRay_92 (lv_at hl 4 rfl) ?_
        refine lv_istore_n (lv' := [(3, .int x4), (6, .int s0), (0, .ref (tad θ 0)), (2, .ref (tad θ (22 + x2))), (4, .int x4), (5, .ref (tad θ (22 + x5)))]) C.1 C.2.1 dX2_followingRay_94 rfl hl (by decide) rfl (fun ls hl => ?_)
        refine lv_iinc (v := (x4 + 1)) (lv' := [(4, .int (x4 + 1)), (3, .int x4), (6, .int s0), (0, .ref (tad θ 0)), (2, .ref (tad θ (22 + x2))), (5, .ref (tad θ (22 + x5)))]) C.1 C.2.1 dX2_followingRay_95 hl (k := 4) rfl rfl (by decide) rfl (fun ls hl => ?_)
        refine lv_goto (tgt := 15) C.1 C.2.1 dX2_followingRay_98 (by decide) ?_
        exact hk15 _ _ _ _ _ _ h _ _ ls (lv_sub hl [3, 4, 1, 0] rfl) hw hS
def b_X2_followingRay_60 (N : Nat) (k15 : Nat → Int32 → Int32 → Mm → Option (Int32 × Mm)) (x2 : Nat) (x3 : Int32) (x4 : Int32) (x5 : Nat) (M : Mm) : Option (Int32 × Mm) :=
  b_X2_followingRay_61 N k15 x2 x3 x4 x5 0 M
set_option maxRecDepth 100000 in
set_option maxHeartbeats 4000000 in
theorem t_X2_followingRay_60 {θ : Th} {p : Program} {l : Launch} {e : Env} {s : State} {m : MethodId} {args : Array Value} {below : List Frame} {meth : Method} {c : Code} (C : Cx θ p s m args meth c cX2_followingRay 7 RX2 (some .int)) (N : Nat) {k15 : Nat → Int32 → Int32 → Mm → Option (Int32 × Mm)} (hk15 : J_X2_followingRay_15 θ p l e s m args below meth c k15) : J_X2_followingRay_60 θ p l e s m args below meth c (b_X2_followingRay_60 N k15) := by
  intro x2 x3 x4 x5 M r M1 h H locs ls hl hw hS
  unfold b_X2_followingRay_60 at h
  refine lv_iconst (v := 0) C.1 C.2.1 dX2_followingRay_60 (by decide) ?_
  exact t_X2_followingRay_61 C N hk15 _ _ _ _ _ _ _ _ h _ _ ls (lv_sub hl [0, 1, 2, 3, 4] rfl) hw hS
def F_X2_followingRay_15 (N : Nat) (k15 : Nat → Int32 → Int32 → Mm → Option (Int32 × Mm)) (x2 : Nat) (x3 : Int32) (x4 : Int32) (M : Mm) : Option (Int32 × Mm) :=
  (if (M.1 2) ≤ x4 then some (x3, M) else (rO 2 x4).bind fun v36 => (f_X2_isDirection N v36 M).bind fun (r41, M41) => (if r41 = 0 then (f_X2_compareTimes N v36 x2 M41).bind fun (r50, M50) => (if r50 ≤ 0 then b_X2_followingRay_60 N k15 x2 x3 x4 v36 M50 else b_X2_followingRay_61 N k15 x2 x3 x4 v36 1 M50) else b_X2_followingRay_60 N k15 x2 x3 x4 v36 M41))
abbrev b_X2_followingRay_15 (N : Nat) : Nat → Int32 → Int32 → Mm → Option (Int32 × Mm) := lpT (fun _ _ _ _ => none) (F_X2_followingRay_15 N) N
set_option maxRecDepth 100000 in
set_option maxHeartbeats 4000000 in
theorem tF_X2_followingRay_15 {θ : Th} {p : Program} {l : Launch} {e : Env} {s : State} {m : MethodId} {args : Array Value} {below : List Frame} {meth : Method} {c : Code} (C : Cx θ p s m args meth c cX2_followingRay 7 RX2 (some .int)) (N : Nat) {k15 : Nat → Int32 → Int32 → Mm → Option (Int32 × Mm)} (hk15 : J_X2_followingRay_15 θ p l e s m args below meth c k15) : J_X2_followingRay_15 θ p l e s m args below meth c (F_X2_followingRay_15 N k15) := by
  intro x2 x3 x4 M r M1 h H locs ls hl hw hS
  unfold F_X2_followingRay_15 at h
  refine lv_iload C.1 C.2.1 dX2_followingRay_15 (lv_at hl 3 rfl) ?_
  refine lv_aload_n C.1 C.2.1 dX2_followingRay_17 rfl (lv_at hl 0 rfl) ?_
  refine gf_X2_cone C hw w_130 dX2_followingRay_18 ?_
  refine gf_X0_count C hw w_111 dX2_followingRay_21 ?_
  refine lv_icmp_ge (tgt := 101) C.1 C.2.1 dX2_followingRay_24 (by decide) (fun c24 => ?_) (fun c24 => ?_)
  · have h := it_t c24 h
    refine lv_iload_n C.1 C.2.1 dX2_followingRay_101 rfl (lv_at hl 2 rfl) ?_
    cases h
    exact k_reti C hw hS dX2_followingRay_102
  · have h := it_f c24 h
    refine lv_aload_n C.1 C.2.1 dX2_followingRay_27 rfl (lv_at hl 0 rfl) ?_
    refine gf_X2_cone C hw w_130 dX2_followingRay_28 ?_
    refine gf_X0_rays C hw w_109 dX2_followingRay_31 ?_
    refine lv_iload C.1 C.2.1 dX2_followingRay_34 (lv_at hl 3 rfl) ?_
    obtain ⟨v36, h36, h⟩ := bind_s h
    refine k_aald C hw 2 (by decide) h36 dX2_followingRay_36 ?_
    refine lv_astore (lv' := [(5, .ref (tad θ (22 + v36))), (0, .ref (tad θ 0)), (2, .ref (tad θ (22 + x2))), (3, .int x3), (4, .int x4)]) C.1 C.2.1 dX2_followingRay_37 hl (by decide) rfl (fun ls hl => ?_)
    refine lv_aload C.1 C.2.1 dX2_followingRay_39 (lv_at hl 0 rfl) ?_
    obtain ⟨⟨r41, M41⟩, h41, h⟩ := bind_s h
    dsimp only at h
    refine k_ci (k_runS (As := [.ref (tad θ (22 + v36))]) C cf_X2_isDirection cs_X2_isDirection w_208 (c_X2_isDirection θ l N h41) ⟨rfl, rfl, Nat.le_of_ble_eq_true rfl, Nat.le_of_ble_eq_true rfl⟩ rfl hl.1 rfl (Nat.le_of_ble_eq_true rfl) dX2_followingRay_41 ⟨Nat.zero_le _, Nat.zero_le _⟩ hw) hS (fun H locs hw hS => ?_)
    refine lv_if_ne (tgt := 60) C.1 C.2.1 dX2_followingRay_44 (by decide) (fun c44 => ?_) (fun c44 => ?_)
    · have h := it_f c44 h
      exact t_X2_followingRay_60 C N hk15 _ _ _ _ _ _ _ h _ _ ls (lv_sub hl [1, 2, 3, 4, 0] rfl) hw hS
    · have h := it_t c44 h
      refine lv_aload C.1 C.2.1 dX2_followingRay_47 (lv_at hl 0 rfl) ?_
      refine lv_aload_n C.1 C.2.1 dX2_followingRay_49 rfl (lv_at hl 2 rfl) ?_
      obtain ⟨⟨r50, M50⟩, h50, h⟩ := bind_s h
      dsimp only at h
      refine k_ci (k_runS (As := [.ref (tad θ (22 + v36)), .ref (tad θ (22 + x2))]) C cf_X2_compareTimes cs_X2_compareTimes w_231 (c_X2_compareTimes θ l N h50) ⟨rfl, rfl, Nat.le_of_ble_eq_true rfl, Nat.le_of_ble_eq_true rfl⟩ rfl hl.1 rfl (Nat.le_of_ble_eq_true rfl) dX2_followingRay_50 ⟨Nat.zero_le _, Nat.zero_le _⟩ hw) hS (fun H locs hw hS => ?_)
      refine lv_if_le (tgt := 60) C.1 C.2.1 dX2_followingRay_53 (by decide) (fun c53 => ?_) (fun c53 => ?_)
      · have h := it_t c53 h
        exact t_X2_followingRay_60 C N hk15 _ _ _ _ _ _ _ h _ _ ls (lv_sub hl [1, 2, 3, 4, 0] rfl) hw hS
      · have h := it_f c53 h
        refine lv_iconst (v := 1) C.1 C.2.1 dX2_followingRay_56 (by decide) ?_
        refine lv_goto (tgt := 61) C.1 C.2.1 dX2_followingRay_57 (by decide) ?_
        exact t_X2_followingRay_61 C N hk15 _ _ _ _ _ _ _ _ h _ _ ls (lv_sub hl [1, 2, 3, 4, 0] rfl) hw hS
theorem t_X2_followingRay_15 {θ : Th} {p : Program} {l : Launch} {e : Env} {s : State} {m : MethodId} {args : Array Value} {below : List Frame} {meth : Method} {c : Code} (C : Cx θ p s m args meth c cX2_followingRay 7 RX2 (some .int)) (N : Nat) : J_X2_followingRay_15 θ p l e s m args below meth c (b_X2_followingRay_15 N) := lpT_ind (J := J_X2_followingRay_15 θ p l e s m args below meth c) (fun _ _ _ _ _ _ h => by cases h) (fun k hk => tF_X2_followingRay_15 C N hk) N
def b_X2_followingRay_0 (N : Nat) (x1 : Int32) (M : Mm) : Option (Int32 × Mm) :=
  (rO 2 x1).bind fun v8 => b_X2_followingRay_15 N v8 (-1) 0 M
set_option maxRecDepth 100000 in
set_option maxHeartbeats 4000000 in
theorem t_X2_followingRay_0 {θ : Th} {p : Program} {l : Launch} {e : Env} {s : State} {m : MethodId} {args : Array Value} {below : List Frame} {meth : Method} {c : Code} (C : Cx θ p s m args meth c cX2_followingRay 7 RX2 (some .int)) (N : Nat) : J_X2_followingRay_0 θ p l e s m args below meth c (b_X2_followingRay_0 N) := by
  intro x1 M r M1 h H locs ls hl hw hS
  unfold b_X2_followingRay_0 at h
  refine lv_aload_n C.1 C.2.1 dX2_followingRay_0 rfl (lv_at hl 0 rfl) ?_
  refine gf_X2_cone C hw w_130 dX2_followingRay_1 ?_
  refine gf_X0_rays C hw w_109 dX2_followingRay_4 ?_
  refine lv_iload_n C.1 C.2.1 dX2_followingRay_7 rfl (lv_at hl 1 rfl) ?_
  obtain ⟨v8, h8, h⟩ := bind_s h
  refine k_aald C hw 2 (by decide) h8 dX2_followingRay_8 ?_
  refine lv_astore_n (lv' := [(2, .ref (tad θ (22 + v8))), (0, .ref (tad θ 0)), (1, .int x1)]) C.1 C.2.1 dX2_followingRay_9 rfl hl (by decide) rfl (fun ls hl => ?_)
  refine lv_iconst (v := (-1)) C.1 C.2.1 dX2_followingRay_10 (by decide) ?_
  refine lv_istore_n (lv' := [(3, .int (-1)), (2, .ref (tad θ (22 + v8))), (0, .ref (tad θ 0)), (1, .int x1)]) C.1 C.2.1 dX2_followingRay_11 rfl hl (by decide) rfl (fun ls hl => ?_)
  refine lv_iconst (v := 0) C.1 C.2.1 dX2_followingRay_12 (by decide) ?_
  refine lv_istore (lv' := [(4, .int 0), (3, .int (-1)), (2, .ref (tad θ (22 + v8))), (0, .ref (tad θ 0)), (1, .int x1)]) C.1 C.2.1 dX2_followingRay_13 hl (by decide) rfl (fun ls hl => ?_)
  exact t_X2_followingRay_15 C N _ _ _ _ _ _ h _ _ ls (lv_sub hl [3, 2, 1, 0] rfl) hw hS
def f_X2_followingRay (N : Nat) (x1 : Int32) (M : Mm) : Option (Int32 × Mm) := b_X2_followingRay_0 N x1 M
set_option maxRecDepth 100000 in
theorem c_X2_followingRay (θ : Th) (l : Launch) (N : Nat) {x1 : Int32} {M : Mm} {r : Int32} {M1 : Mm} (h : f_X2_followingRay N x1 M = some (r, M1)) : Met l yX2_followingRay (gws yX2_followingRay cX2_followingRay 7 (some .int)) rm_X2_followingRay (va_Pc [.ref (tad θ 0), .int x1] (wU θ M)) (qI θ r M1) 0 0 (tA θ) :=
  k_met (by decide +kernel) (Nat.le_of_ble_eq_true rfl) (fun p e s m args below meth c C ls hl hw => t_X2_followingRay_0 C N _ _ _ _ h _ _ ls (lv_sub hl [0, 1] rfl) hw va_S.rf)
abbrev rm_X2_traceBends : Room := { frames := 4, cells := 0, slots := 0, locals := 105 }
def J_X2_traceBends_34 (θ : Th) (p : Program) (l : Launch) (e : Env) (s : State) (m : MethodId) (args : Array Value) (below : List Frame) (meth : Method) (c : Code) (g : Int32 → Int32 → Mm → Option (Int32 × Mm)) : Prop := ∀ (x1 : Int32) (x2 : Int32) (M : Mm) (r : Int32) (M1 : Mm), g x1 x2 M = some (r, M1) → ∀ (H : Heap) (locs : List Loc) (ls : Array Slot), lv_has ls 3 [(0, .ref (tad θ 0)), (1, .int x1), (2, .int x2)] → wd θ M H → va_S (tA θ) s.heap H locs → W p l e rm_X2_traceBends s m args below meth c H locs 0 0 (MQ below (qI θ r M1) args s 0 0 (tA θ)) (F0 m 34 ls [])
def J_X2_traceBends_0 (θ : Th) (p : Program) (l : Launch) (e : Env) (s : State) (m : MethodId) (args : Array Value) (below : List Frame) (meth : Method) (c : Code) (g : Mm → Option (Int32 × Mm)) : Prop := ∀ (M : Mm) (r : Int32) (M1 : Mm), g M = some (r, M1) → ∀ (H : Heap) (locs : List Loc) (ls : Array Slot), lv_has ls 3 [(0, .ref (tad θ 0))] → wd θ M H → va_S (tA θ) s.heap H locs → W p l e rm_X2_traceBends s m args below meth c H locs 0 0 (MQ below (qI θ r M1) args s 0 0 (tA θ)) (F0 m 0 ls [])
def F_X2_traceBends_34 (N : Nat) (k34 : Int32 → Int32 → Mm → Option (Int32 × Mm)) (x1 : Int32) (x2 : Int32) (M : Mm) : Option (Int32 × Mm) :=
  (if 126 ≤ x1 then some (x1, M) else (if x2 = (-1) then some (x1, M) else (wA M 5 x1 x2).bind fun M51 => (f_X2_followingRay N x2 M51).bind fun (r57, M57) => k34 (x1 + 1) r57 M57))
abbrev b_X2_traceBends_34 (N : Nat) : Int32 → Int32 → Mm → Option (Int32 × Mm) := lpT (fun _ _ _ => none) (F_X2_traceBends_34 N) N
set_option maxRecDepth 100000 in
set_option maxHeartbeats 4000000 in
theorem tF_X2_traceBends_34 {θ : Th} {p : Program} {l : Launch} {e : Env} {s : State} {m : MethodId} {args : Array Value} {below : List Frame} {meth : Method} {c : Code} (C : Cx θ p s m args meth c cX2_traceBends 3 RX2 (some .int)) (N : Nat) {k34 : Int32 → Int32 → Mm → Option (Int32 × Mm)} (hk34 : J_X2_traceBends_34 θ p l e s m args below meth c k34) : J_X2_traceBends_34 θ p l e s m args below meth c (F_X2_traceBends_34 N k34) := by
  intro x1 x2 M r M1 h H locs ls hl hw hS
  unfold F_X2_traceBends_34 at h
  refine lv_iload_n C.1 C.2.1 dX2_traceBends_34 rfl (lv_at hl 1 rfl) ?_
  refine lv_bipush (v := 126) C.1 C.2.1 dX2_traceBends_35 (by decide) ?_
  refine lv_icmp_ge (tgt := 64) C.1 C.2.1 dX2_traceBends_37 (by decide) (fun c37 => ?_) (fun c37 => ?_)
  · have h := it_t c37 h
    refine lv_iload_n C.1 C.2.1 dX2_traceBends_64 rfl (lv_at hl 1 rfl) ?_
    cases h
    exact k_reti C hw hS dX2_traceBends_65
  · have h := it_f c37 h
    refine lv_iload_n C.1 C.2.1 dX2_traceBends_40 rfl (lv_at hl 2 rfl) ?_
    refine lv_iconst (v := (-1)) C.1 C.2.1 dX2_traceBends_41 (by decide) ?_
    refine lv_icmp_eq (tgt := 64) C.1 C.2.1 dX2_traceBends_42 (by decide) (fun c42 => ?_) (fun c42 => ?_)
    · have h := it_t c42 h
      refine lv_iload_n C.1 C.2.1 dX2_traceBends_64 rfl (lv_at hl 1 rfl) ?_
      cases h
      exact k_reti C hw hS dX2_traceBends_65
    · have h := it_f c42 h
      refine lv_aload_n C.1 C.2.1 dX2_traceBends_45 rfl (lv_at hl 0 rfl) ?_
      refine gf_X2_bends C hw w_131 dX2_traceBends_46 ?_
      refine lv_iload_n C.1 C.2.1 dX2_traceBends_49 rfl (lv_at hl 1 rfl) ?_
      refine lv_iload_n C.1 C.2.1 dX2_traceBends_50 rfl (lv_at hl 2 rfl) ?_
      obtain ⟨M51, h51, h⟩ := bind_s h
      refine k_iast C hw hS 5 (by decide) h51 dX2_traceBends_51 (fun H locs hw hS => ?_)
      refine lv_iinc (v := (x1 + 1)) (lv' := [(1, .int (x1 + 1)), (0, .ref (tad θ 0)), (2, .int x2)]) C.1 C.2.1 dX2_traceBends_52 hl (k := 1) rfl rfl (by decide) rfl (fun ls hl => ?_)
      refine lv_aload_n C.1 C.2.1 dX2_traceBends_55 rfl (lv_at hl 1 rfl) ?_
      refine lv_iload_n C.1 C.2.1 dX2_traceBends_56 rfl (lv_at hl 2 rfl) ?_
      obtain ⟨⟨r57, M57⟩, h57, h⟩ := bind_s h
      dsimp only at h
      refine k_ci (k_runV (As := [.int x2]) C cf_X2_followingRay cv_X2_followingRay w_237 rc0 (c_X2_followingRay θ l N h57) ⟨rfl, rfl, Nat.le_of_ble_eq_true rfl, Nat.le_of_ble_eq_true rfl⟩ rfl hl.1 rfl (Nat.le_of_ble_eq_true rfl) dX2_traceBends_57 ⟨Nat.zero_le _, Nat.zero_le _⟩ hw) hS (fun H locs hw hS => ?_)
      refine lv_istore_n (lv' := [(2, .int r57), (1, .int (x1 + 1)), (0, .ref (tad θ 0))]) C.1 C.2.1 dX2_traceBends_60 rfl hl (by decide) rfl (fun ls hl => ?_)
      refine lv_goto (tgt := 34) C.1 C.2.1 dX2_traceBends_61 (by decide) ?_
      exact hk34 _ _ _ _ _ h _ _ ls (lv_sub hl [2, 1, 0] rfl) hw hS
theorem t_X2_traceBends_34 {θ : Th} {p : Program} {l : Launch} {e : Env} {s : State} {m : MethodId} {args : Array Value} {below : List Frame} {meth : Method} {c : Code} (C : Cx θ p s m args meth c cX2_traceBends 3 RX2 (some .int)) (N : Nat) : J_X2_traceBends_34 θ p l e s m args below meth c (b_X2_traceBends_34 N) := lpT_ind (J := J_X2_traceBends_34 θ p l e s m args below meth c) (fun _ _ _ _ _ h => by cases h) (fun k hk => tF_X2_traceBends_34 C N hk) N
def b_X2_traceBends_0 (N : Nat) (M : Mm) : Option (Int32 × Mm) :=
  (f_X1_allRows N M).bind fun (r12, M12) => (f_X0_collect N r12 M12).bind fun M15 => (f_X2_canRise N M15).bind fun (r19, M19) => (if r19 = 0 then (f_X2_earliestRay N M19).bind fun (r30, M30) => b_X2_traceBends_34 N 0 r30 M30 else some (0, M19))
set_option maxRecDepth 100000 in
set_option maxHeartbeats 4000000 in
theorem t_X2_traceBends_0 {θ : Th} {p : Program} {l : Launch} {e : Env} {s : State} {m : MethodId} {args : Array Value} {below : List Frame} {meth : Method} {c : Code} (C : Cx θ p s m args meth c cX2_traceBends 3 RX2 (some .int)) (N : Nat) : J_X2_traceBends_0 θ p l e s m args below meth c (b_X2_traceBends_0 N) := by
  intro M r M1 h H locs ls hl hw hS
  unfold b_X2_traceBends_0 at h
  refine lv_aload_n C.1 C.2.1 dX2_traceBends_0 rfl (lv_at hl 0 rfl) ?_
  refine gf_X2_cone C hw w_130 dX2_traceBends_1 ?_
  refine lv_aload_n C.1 C.2.1 dX2_traceBends_4 rfl (lv_at hl 0 rfl) ?_
  refine gf_X2_sheet C hw w_129 dX2_traceBends_5 ?_
  refine lv_aload_n C.1 C.2.1 dX2_traceBends_8 rfl (lv_at hl 0 rfl) ?_
  refine gf_X2_sheet C hw w_129 dX2_traceBends_9 ?_
  obtain ⟨⟨r12, M12⟩, h12, h⟩ := bind_s h
  dsimp only at h
  refine k_ci (k_runV (As := []) C cf_X1_allRows cv_X1_allRows w_143 rc1 (c_X1_allRows θ l N h12) ⟨rfl, rfl, Nat.le_of_ble_eq_true rfl, Nat.le_of_ble_eq_true rfl⟩ rfl hl.1 rfl (Nat.le_of_ble_eq_true rfl) dX2_traceBends_12 ⟨Nat.zero_le _, Nat.zero_le _⟩ hw) hS (fun H locs hw hS => ?_)
  obtain ⟨M15, h15, h⟩ := bind_s h
  refine k_cv (k_runV (As := [.ref (tad θ 1), .int r12]) C cf_X0_collect cv_X0_collect w_151 rc2 (c_X0_collect θ l N h15) ⟨rfl, rfl, Nat.le_of_ble_eq_true rfl, Nat.le_of_ble_eq_true rfl⟩ rfl hl.1 rfl (Nat.le_of_ble_eq_true rfl) dX2_traceBends_15 ⟨Nat.zero_le _, Nat.zero_le _⟩ hw) hS (fun H locs hw hS => ?_)
  refine lv_aload_n C.1 C.2.1 dX2_traceBends_18 rfl (lv_at hl 0 rfl) ?_
  obtain ⟨⟨r19, M19⟩, h19, h⟩ := bind_s h
  dsimp only at h
  refine k_ci (k_runV (As := []) C cf_X2_canRise cv_X2_canRise w_204 rc0 (c_X2_canRise θ l N h19) ⟨rfl, rfl, Nat.le_of_ble_eq_true rfl, Nat.le_of_ble_eq_true rfl⟩ rfl hl.1 rfl (Nat.le_of_ble_eq_true rfl) dX2_traceBends_19 ⟨Nat.zero_le _, Nat.zero_le _⟩ hw) hS (fun H locs hw hS => ?_)
  refine lv_if_eq (tgt := 27) C.1 C.2.1 dX2_traceBends_22 (by decide) (fun c22 => ?_) (fun c22 => ?_)
  · have h := it_t c22 h
    refine lv_iconst (v := 0) C.1 C.2.1 dX2_traceBends_27 (by decide) ?_
    refine lv_istore_n (lv' := [(1, .int 0), (0, .ref (tad θ 0))]) C.1 C.2.1 dX2_traceBends_28 rfl hl (by decide) rfl (fun ls hl => ?_)
    refine lv_aload_n C.1 C.2.1 dX2_traceBends_29 rfl (lv_at hl 1 rfl) ?_
    obtain ⟨⟨r30, M30⟩, h30, h⟩ := bind_s h
    dsimp only at h
    refine k_ci (k_runV (As := []) C cf_X2_earliestRay cv_X2_earliestRay w_223 rc0 (c_X2_earliestRay θ l N h30) ⟨rfl, rfl, Nat.le_of_ble_eq_true rfl, Nat.le_of_ble_eq_true rfl⟩ rfl hl.1 rfl (Nat.le_of_ble_eq_true rfl) dX2_traceBends_30 ⟨Nat.zero_le _, Nat.zero_le _⟩ hw) hS (fun H locs hw hS => ?_)
    refine lv_istore_n (lv' := [(2, .int r30), (1, .int 0), (0, .ref (tad θ 0))]) C.1 C.2.1 dX2_traceBends_33 rfl hl (by decide) rfl (fun ls hl => ?_)
    exact t_X2_traceBends_34 C N _ _ _ _ _ h _ _ ls (lv_sub hl [2, 1, 0] rfl) hw hS
  · have h := it_f c22 h
    refine lv_iconst (v := 0) C.1 C.2.1 dX2_traceBends_25 (by decide) ?_
    cases h
    exact k_reti C hw hS dX2_traceBends_26
def f_X2_traceBends (N : Nat) (M : Mm) : Option (Int32 × Mm) := b_X2_traceBends_0 N M
set_option maxRecDepth 100000 in
theorem c_X2_traceBends (θ : Th) (l : Launch) (N : Nat) {M : Mm} {r : Int32} {M1 : Mm} (h : f_X2_traceBends N M = some (r, M1)) : Met l yX2_traceBends (gws yX2_traceBends cX2_traceBends 3 (some .int)) rm_X2_traceBends (va_Pc [.ref (tad θ 0)] (wU θ M)) (qI θ r M1) 0 0 (tA θ) :=
  k_met (by decide +kernel) (Nat.le_of_ble_eq_true rfl) (fun p e s m args below meth c C ls hl hw => t_X2_traceBends_0 C N _ _ _ h _ _ ls (lv_sub hl [0] rfl) hw va_S.rf)
abbrev rm_X2_commonDivisor : Room := { frames := 1, cells := 0, slots := 0, locals := 27 }
def J_X2_commonDivisor_9 (θ : Th) (p : Program) (l : Launch) (e : Env) (s : State) (m : MethodId) (args : Array Value) (below : List Frame) (meth : Method) (c : Code) (g : Int64 → Int64 → Int32 → Mm → Option (Int64 × Mm)) : Prop := ∀ (x4 : Int64) (x6 : Int64) (x8 : Int32) (M : Mm) (r : Int64) (M1 : Mm), g x4 x6 x8 M = some (r, M1) → ∀ (H : Heap) (locs : List Loc) (ls : Array Slot), lv_has ls 11 [(4, .long x4), (6, .long x6), (8, .int x8)] → wd θ M H → va_S (tA θ) s.heap H locs → W p l e rm_X2_commonDivisor s m args below meth c H locs 0 0 (MQ below (qL θ r M1) args s 0 0 (tA θ)) (F0 m 9 ls [])
def J_X2_commonDivisor_0 (θ : Th) (p : Program) (l : Launch) (e : Env) (s : State) (m : MethodId) (args : Array Value) (below : List Frame) (meth : Method) (c : Code) (g : Int64 → Int64 → Mm → Option (Int64 × Mm)) : Prop := ∀ (x0 : Int64) (x2 : Int64) (M : Mm) (r : Int64) (M1 : Mm), g x0 x2 M = some (r, M1) → ∀ (H : Heap) (locs : List Loc) (ls : Array Slot), lv_has ls 11 [(0, .long x0), (2, .long x2)] → wd θ M H → va_S (tA θ) s.heap H locs → W p l e rm_X2_commonDivisor s m args below meth c H locs 0 0 (MQ below (qL θ r M1) args s 0 0 (tA θ)) (F0 m 0 ls [])
def F_X2_commonDivisor_9 (N : Nat) (k9 : Int64 → Int64 → Int32 → Mm → Option (Int64 × Mm)) (x4 : Int64) (x6 : Int64) (x8 : Int32) (M : Mm) : Option (Int64 × Mm) :=
  (if 100 ≤ x8 then some ((if 1 < x4 then x4 else 1), M) else (if (lg_cmp x6 0) = 0 then some ((if 1 < x4 then x4 else 1), M) else (if (x6 : Int64) = 0 then none else k9 x6 (x4 - x4 / x6 * x6) (x8 + 1) M)))
abbrev b_X2_commonDivisor_9 (N : Nat) : Int64 → Int64 → Int32 → Mm → Option (Int64 × Mm) := lpT (fun _ _ _ _ => none) (F_X2_commonDivisor_9 N) N
set_option maxRecDepth 100000 in
set_option maxHeartbeats 4000000 in
theorem tF_X2_commonDivisor_9 {θ : Th} {p : Program} {l : Launch} {e : Env} {s : State} {m : MethodId} {args : Array Value} {below : List Frame} {meth : Method} {c : Code} (C : Cx θ p s m args meth c cX2_commonDivisor 11 RX2 (some .long)) (N : Nat) {k9 : Int64 → Int64 → Int32 → Mm → Option (Int64 × Mm)} (hk9 : J_X2_commonDivisor_9 θ p l e s m args below meth c k9) : J_X2_commonDivisor_9 θ p l e s m args below meth c (F_X2_commonDivisor_9 N k9) := by
  intro x4 x6 x8 M r M1 h H locs ls hl hw hS
  unfold F_X2_commonDivisor_9 at h
  refine lv_iload C.1 C.2.1 dX2_commonDivisor_9 (lv_at hl 2 rfl) ?_
  refine lv_bipush (v := 100) C.1 C.2.1 dX2_commonDivisor_11 (by decide) ?_
  refine lv_icmp_ge (tgt := 44) C.1 C.2.1 dX2_commonDivisor_13 (by decide) (fun c13 => ?_) (fun c13 => ?_)
  · have h := it_t c13 h
    refine lv_lload C.1 C.2.1 dX2_commonDivisor_44 (lv_at hl 0 rfl) ?_
    refine lv_lconst (v := 1) C.1 C.2.1 dX2_commonDivisor_46 (by decide) ?_
    refine va_mmax_long C.1 C.2.1 (C.2.2.1.trans hl.1.symm) C.2.2.2.1 (C.2.2.2.2.1 _ w_449) (C.2.2.2.2.1 _ w_450) (C.2.2.2.2.1 _ w_56) (C.2.2.2.2.1 _ w_451) (Nat.le_of_ble_eq_true rfl) (Nat.le_of_ble_eq_true rfl) (Nat.zero_le _) (Nat.zero_le _) dX2_commonDivisor_47 ?_
    cases h
    exact k_retl C hw hS dX2_commonDivisor_50
  · have h := it_f c13 h
    refine lv_lload C.1 C.2.1 dX2_commonDivisor_16 (lv_at hl 1 rfl) ?_
    refine lv_lconst (v := 0) C.1 C.2.1 dX2_commonDivisor_18 (by decide) ?_
    refine W.lcmp C.1 C.2.1 dX2_commonDivisor_19 ?_
    refine lv_if_eq (tgt := 44) C.1 C.2.1 dX2_commonDivisor_20 (by decide) (fun c20 => ?_) (fun c20 => ?_)
    · have h := it_t c20 h
      refine lv_lload C.1 C.2.1 dX2_commonDivisor_44 (lv_at hl 0 rfl) ?_
      refine lv_lconst (v := 1) C.1 C.2.1 dX2_commonDivisor_46 (by decide) ?_
      refine va_mmax_long C.1 C.2.1 (C.2.2.1.trans hl.1.symm) C.2.2.2.1 (C.2.2.2.2.1 _ w_449) (C.2.2.2.2.1 _ w_450) (C.2.2.2.2.1 _ w_56) (C.2.2.2.2.1 _ w_451) (Nat.le_of_ble_eq_true rfl) (Nat.le_of_ble_eq_true rfl) (Nat.zero_le _) (Nat.zero_le _) dX2_commonDivisor_47 ?_
      cases h
      exact k_retl C hw hS dX2_commonDivisor_50
    · have h := it_f c20 h
      refine lv_lload C.1 C.2.1 dX2_commonDivisor_23 (lv_at hl 0 rfl) ?_
      refine lv_lload C.1 C.2.1 dX2_commonDivisor_25 (lv_at hl 1 rfl) ?_
      obtain ⟨hn27, h⟩ := it_n h
      refine lv_lrem C.1 C.2.1 dX2_commonDivisor_27 hn27 ?_
      refine lv_lstore (lv' := [(9, .long (x4 - x4 / x6 * x6)), (4, .long x4), (6, .long x6), (8, .int x8)]) C.1 C.2.1 dX2_commonDivisor_28 hl (by decide) rfl (fun ls hl => ?_)
      refine lv_lload C.1 C.2.1 dX2_commonDivisor_30 (lv_at hl 2 rfl) ?_
      refine lv_lstore (lv' := [(4, .long x6), (9, .long (x4 - x4 / x6 * x6)), (6, .long x6), (8, .int x8)]) C.1 C.2.1 dX2_commonDivisor_32 hl (by decide) rfl (fun ls hl => ?_)
      refine lv_lload C.1 C.2.1 dX2_commonDivisor_34 (lv_at hl 1 rfl) ?_
      refine lv_lstore (lv' := [(6, .long (x4 - x4 / x6 * x6)), (4, .long x6), (9, .long (x4 - x4 / x6 * x6)), (8, .int x8)]) C.1 C.2.1 dX2_commonDivisor_36 hl (by decide) rfl (fun ls hl => ?_)
      refine lv_iinc (v := (x8 + 1)) (lv' := [(8, .int (x8 + 1)), (6, .long (x4 - x4 / x6 * x6)), (4, .long x6), (9, .long (x4 - x4 / x6 * x6))]) C.1 C.2.1 dX2_commonDivisor_38 hl (k := 3) rfl rfl (by decide) rfl (fun ls hl => ?_)
      refine lv_goto (tgt := 9) C.1 C.2.1 dX2_commonDivisor_41 (by decide) ?_
      exact hk9 _ _ _ _ _ _ h _ _ ls (lv_sub hl [2, 1, 0] rfl) hw hS
theorem t_X2_commonDivisor_9 {θ : Th} {p : Program} {l : Launch} {e : Env} {s : State} {m : MethodId} {args : Array Value} {below : List Frame} {meth : Method} {c : Code} (C : Cx θ p s m args meth c cX2_commonDivisor 11 RX2 (some .long)) (N : Nat) : J_X2_commonDivisor_9 θ p l e s m args below meth c (b_X2_commonDivisor_9 N) := lpT_ind (J := J_X2_commonDivisor_9 θ p l e s m args below meth c) (fun _ _ _ _ _ _ h => by cases h) (fun k hk => tF_X2_commonDivisor_9 C N hk) N
def b_X2_commonDivisor_0 (N : Nat) (x0 : Int64) (x2 : Int64) (M : Mm) : Option (Int64 × Mm) :=
  b_X2_commonDivisor_9 N x0 x2 0 M
set_option maxRecDepth 100000 in
set_option maxHeartbeats 4000000 in
theorem t_X2_commonDivisor_0 {θ : Th} {p : Program} {l : Launch} {e : Env} {s : State} {m : MethodId} {args : Array Value} {below : List Frame} {meth : Method} {c : Code} (C : Cx θ p s m args meth c cX2_commonDivisor 11 RX2 (some .long)) (N : Nat) : J_X2_commonDivisor_0 θ p l e s m args below meth c (b_X2_commonDivisor_0 N) := by
  intro x0 x2 M r M1 h H locs ls hl hw hS
  unfold b_X2_commonDivisor_0 at h
  refine lv_lload_n C.1 C.2.1 dX2_commonDivisor_0 rfl (lv_at hl 0 rfl) ?_
  refine lv_lstore (lv' := [(4, .long x0), (0, .long x0), (2, .long x2)]) C.1 C.2.1 dX2_commonDivisor_1 hl (by decide) rfl (fun ls hl => ?_)
  refine lv_lload_n C.1 C.2.1 dX2_commonDivisor_3 rfl (lv_at hl 2 rfl) ?_
  refine lv_lstore (lv' := [(6, .long x2), (4, .long x0), (0, .long x0), (2, .long x2)]) C.1 C.2.1 dX2_commonDivisor_4 hl (by decide) rfl (fun ls hl => ?_)
  refine lv_iconst (v := 0) C.1 C.2.1 dX2_commonDivisor_6 (by decide) ?_
  refine lv_istore (lv' := [(8, .int 0), (6, .long x2), (4, .long x0), (0, .long x0), (2, .long x2)]) C.1 C.2.1 dX2_commonDivisor_7 hl (by decide) rfl (fun ls hl => ?_)
  exact t_X2_commonDivisor_9 C N _ _ _ _ _ _ h _ _ ls (lv_sub hl [2, 1, 0] rfl) hw hS
def f_X2_commonDivisor (N : Nat) (x0 : Int64) (x2 : Int64) (M : Mm) : Option (Int64 × Mm) := b_X2_commonDivisor_0 N x0 x2 M
set_option maxRecDepth 100000 in
theorem c_X2_commonDivisor (θ : Th) (l : Launch) (N : Nat) {x0 : Int64} {x2 : Int64} {M : Mm} {r : Int64} {M1 : Mm} (h : f_X2_commonDivisor N x0 x2 M = some (r, M1)) : Met l yX2_commonDivisor (gws yX2_commonDivisor cX2_commonDivisor 11 (some .long)) rm_X2_commonDivisor (va_Pc [.long x0, .long x2] (wU θ M)) (qL θ r M1) 0 0 (tA θ) :=
  k_met (by decide +kernel) (Nat.le_of_ble_eq_true rfl) (fun p e s m args below meth c C ls hl hw => t_X2_commonDivisor_0 C N _ _ _ _ _ h _ _ ls (lv_sub hl [0, 1] rfl) hw va_S.rf)
abbrev rm_X2_partOf : Room := { frames := 2, cells := 0, slots := 0, locals := 57 }
def J_X2_partOf_0 (θ : Th) (p : Program) (l : Launch) (e : Env) (s : State) (m : MethodId) (args : Array Value) (below : List Frame) (meth : Method) (c : Code) (g : Int64 → Int64 → Int32 → Mm → Option (Int64 × Mm)) : Prop := ∀ (x0 : Int64) (x2 : Int64) (x4 : Int32) (M : Mm) (r : Int64) (M1 : Mm), g x0 x2 x4 M = some (r, M1) → ∀ (H : Heap) (locs : List Loc) (ls : Array Slot), lv_has ls 7 [(0, .long x0), (2, .long x2), (4, .int x4)] → wd θ M H → va_S (tA θ) s.heap H locs → W p l e rm_X2_partOf s m args below meth c H locs 0 0 (MQ below (qL θ r M1) args s 0 0 (tA θ)) (F0 m 0 ls [])
def b_X2_partOf_0 (N : Nat) (x0 : Int64) (x2 : Int64) (x4 : Int32) (M : Mm) : Option (Int64 × Mm) :=
  (f_X2_commonDivisor N (if 0 < x0 then x0 else -x0) x2 M).bind fun (r5, M5) => (if x4 = 0 then (if (r5 : Int64) = 0 then none else some ((x0 / r5), M5)) else (if (r5 : Int64) = 0 then none else some ((x2 / r5), M5)))
set_option maxRecDepth 100000 in
set_option maxHeartbeats 4000000 in
theorem t_X2_partOf_0 {θ : Th} {p : Program} {l : Launch} {e : Env} {s : State} {m : MethodId} {args : Array Value} {below : List Frame} {meth : Method} {c : Code} (C : Cx θ p s m args meth c cX2_partOf 7 RX2 (some .long)) (N : Nat) : J_X2_partOf_0 θ p l e s m args below meth c (b_X2_partOf_0 N) := by
  intro x0 x2 x4 M r M1 h H locs ls hl hw hS
  unfold b_X2_partOf_0 at h
  refine lv_lload_n C.1 C.2.1 dX2_partOf_0 rfl (lv_at hl 0 rfl) ?_
  refine va_mabs_long C.1 C.2.1 (C.2.2.1.trans hl.1.symm) C.2.2.2.1 (C.2.2.2.2.1 _ w_443) (C.2.2.2.2.1 _ w_444) (C.2.2.2.2.1 _ w_56) (C.2.2.2.2.1 _ w_445) (Nat.le_of_ble_eq_true rfl) (Nat.le_of_ble_eq_true rfl) (Nat.zero_le _) (Nat.zero_le _) dX2_partOf_1 ?_
  refine lv_lload_n C.1 C.2.1 dX2_partOf_4 rfl (lv_at hl 1 rfl) ?_
  obtain ⟨⟨r5, M5⟩, h5, h⟩ := bind_s h
  dsimp only at h
  refine k_cl (k_runS (As := [.long (if 0 < x0 then x0 else -x0), .long x2]) C cf_X2_commonDivisor cs_X2_commonDivisor w_446 (c_X2_commonDivisor θ l N h5) ⟨rfl, rfl, Nat.le_of_ble_eq_true rfl, Nat.le_of_ble_eq_true rfl⟩ rfl hl.1 rfl (Nat.le_of_ble_eq_true rfl) dX2_partOf_5 ⟨Nat.zero_le _, Nat.zero_le _⟩ hw) hS (fun H locs hw hS => ?_)
  refine lv_lstore (lv' := [(5, .long r5), (0, .long x0), (2, .long x2), (4, .int x4)]) C.1 C.2.1 dX2_partOf_8 hl (by decide) rfl (fun ls hl => ?_)
  refine lv_iload C.1 C.2.1 dX2_partOf_10 (lv_at hl 3 rfl) ?_
  refine lv_if_ne (tgt := 22) C.1 C.2.1 dX2_partOf_12 (by decide) (fun c12 => ?_) (fun c12 => ?_)
  · have h := it_f c12 h
    refine lv_lload_n C.1 C.2.1 dX2_partOf_22 rfl (lv_at hl 2 rfl) ?_
    refine lv_lload C.1 C.2.1 dX2_partOf_23 (lv_at hl 0 rfl) ?_
    obtain ⟨hn25, h⟩ := it_n h
    refine lv_ldiv C.1 C.2.1 dX2_partOf_25 hn25 ?_
    cases h
    exact k_retl C hw hS dX2_partOf_26
  · have h := it_t c12 h
    refine lv_lload_n C.1 C.2.1 dX2_partOf_15 rfl (lv_at hl 1 rfl) ?_
    refine lv_lload C.1 C.2.1 dX2_partOf_16 (lv_at hl 0 rfl) ?_
    obtain ⟨hn18, h⟩ := it_n h
    refine lv_ldiv C.1 C.2.1 dX2_partOf_18 hn18 ?_
    refine lv_goto (tgt := 26) C.1 C.2.1 dX2_partOf_19 (by decide) ?_
    cases h
    exact k_retl C hw hS dX2_partOf_26
def f_X2_partOf (N : Nat) (x0 : Int64) (x2 : Int64) (x4 : Int32) (M : Mm) : Option (Int64 × Mm) := b_X2_partOf_0 N x0 x2 x4 M
set_option maxRecDepth 100000 in
theorem c_X2_partOf (θ : Th) (l : Launch) (N : Nat) {x0 : Int64} {x2 : Int64} {x4 : Int32} {M : Mm} {r : Int64} {M1 : Mm} (h : f_X2_partOf N x0 x2 x4 M = some (r, M1)) : Met l yX2_partOf (gws yX2_partOf cX2_partOf 7 (some .long)) rm_X2_partOf (va_Pc [.long x0, .long x2, .int x4] (wU θ M)) (qL θ r M1) 0 0 (tA θ) :=
  k_met (by decide +kernel) (Nat.le_of_ble_eq_true rfl) (fun p e s m args below meth c C ls hl hw => t_X2_partOf_0 C N _ _ _ _ _ _ h _ _ ls (lv_sub hl [0, 1, 2] rfl) hw va_S.rf)
abbrev rm_X2_solve : Room := { frames := 5, cells := 0, slots := 0, locals := 127 }
def J_X2_solve_0 (θ : Th) (p : Program) (l : Launch) (e : Env) (s : State) (m : MethodId) (args : Array Value) (below : List Frame) (meth : Method) (c : Code) (g : Mm → Option (Int32 × Mm)) : Prop := ∀ (M : Mm) (r : Int32) (M1 : Mm), g M = some (r, M1) → ∀ (H : Heap) (locs : List Loc) (ls : Array Slot), lv_has ls 1 [(0, .ref (tad θ 0))] → wd θ M H → va_S (tA θ) s.heap H locs → W p l e rm_X2_solve s m args below meth c H locs 0 0 (MQ below (qI θ r M1) args s 0 0 (tA θ)) (F0 m 0 ls [])
def b_X2_solve_0 (N : Nat) (M : Mm) : Option (Int32 × Mm) :=
  (f_X1_allRows N M).bind fun (r5, M5) => (f_X2_isFeasible N r5 M5).bind fun (r8, M8) => (if r8 = 0 then some (1, M8) else (f_X2_canRise N M8).bind fun (r17, M17) => (if r17 = 0 then some (0, M17) else some (2, M17)))
set_option maxRecDepth 100000 in
set_option maxHeartbeats 4000000 in
theorem t_X2_solve_0 {θ : Th} {p : Program} {l : Launch} {e : Env} {s : State} {m : MethodId} {args : Array Value} {below : List Frame} {meth : Method} {c : Code} (C : Cx θ p s m args meth c cX2_solve 1 RX2 (some .int)) (N : Nat) : J_X2_solve_0 θ p l e s m args below meth c (b_X2_solve_0 N) := by
  intro M r M1 h H locs ls hl hw hS
  unfold b_X2_solve_0 at h
  refine lv_aload_n C.1 C.2.1 dX2_solve_0 rfl (lv_at hl 0 rfl) ?_
  refine lv_aload_n C.1 C.2.1 dX2_solve_1 rfl (lv_at hl 0 rfl) ?_
  refine gf_X2_sheet C hw w_129 dX2_solve_2 ?_
  obtain ⟨⟨r5, M5⟩, h5, h⟩ := bind_s h
  dsimp only at h
  refine k_ci (k_runV (As := []) C cf_X1_allRows cv_X1_allRows w_143 rc1 (c_X1_allRows θ l N h5) ⟨rfl, rfl, Nat.le_of_ble_eq_true rfl, Nat.le_of_ble_eq_true rfl⟩ rfl hl.1 rfl (Nat.le_of_ble_eq_true rfl) dX2_solve_5 ⟨Nat.zero_le _, Nat.zero_le _⟩ hw) hS (fun H locs hw hS => ?_)
  obtain ⟨⟨r8, M8⟩, h8, h⟩ := bind_s h
  dsimp only at h
  refine k_ci (k_runV (As := [.int r5]) C cf_X2_isFeasible cv_X2_isFeasible w_147 rc0 (c_X2_isFeasible θ l N h8) ⟨rfl, rfl, Nat.le_of_ble_eq_true rfl, Nat.le_of_ble_eq_true rfl⟩ rfl hl.1 rfl (Nat.le_of_ble_eq_true rfl) dX2_solve_8 ⟨Nat.zero_le _, Nat.zero_le _⟩ hw) hS (fun H locs hw hS => ?_)
  refine lv_if_ne (tgt := 16) C.1 C.2.1 dX2_solve_11 (by decide) (fun c11 => ?_) (fun c11 => ?_)
  · have h := it_f c11 h
    refine lv_aload_n C.1 C.2.1 dX2_solve_16 rfl (lv_at hl 0 rfl) ?_
    obtain ⟨⟨r17, M17⟩, h17, h⟩ := bind_s h
    dsimp only at h
    refine k_ci (k_runV (As := []) C cf_X2_canRise cv_X2_canRise w_204 rc0 (c_X2_canRise θ l N h17) ⟨rfl, rfl, Nat.le_of_ble_eq_true rfl, Nat.le_of_ble_eq_true rfl⟩ rfl hl.1 rfl (Nat.le_of_ble_eq_true rfl) dX2_solve_17 ⟨Nat.zero_le _, Nat.zero_le _⟩ hw) hS (fun H locs hw hS => ?_)
    refine lv_if_eq (tgt := 27) C.1 C.2.1 dX2_solve_20 (by decide) (fun c20 => ?_) (fun c20 => ?_)
    · have h := it_t c20 h
      refine lv_iconst (v := 0) C.1 C.2.1 dX2_solve_27 (by decide) ?_
      cases h
      exact k_reti C hw hS dX2_solve_28
    · have h := it_f c20 h
      refine lv_iconst (v := 2) C.1 C.2.1 dX2_solve_23 (by decide) ?_
      refine lv_goto (tgt := 28) C.1 C.2.1 dX2_solve_24 (by decide) ?_
      cases h
      exact k_reti C hw hS dX2_solve_28
  · have h := it_t c11 h
    refine lv_iconst (v := 1) C.1 C.2.1 dX2_solve_14 (by decide) ?_
    cases h
    exact k_reti C hw hS dX2_solve_15
def f_X2_solve (N : Nat) (M : Mm) : Option (Int32 × Mm) := b_X2_solve_0 N M
set_option maxRecDepth 100000 in
theorem c_X2_solve (θ : Th) (l : Launch) (N : Nat) {M : Mm} {r : Int32} {M1 : Mm} (h : f_X2_solve N M = some (r, M1)) : Met l yX2_solve (gws yX2_solve cX2_solve 1 (some .int)) rm_X2_solve (va_Pc [.ref (tad θ 0)] (wU θ M)) (qI θ r M1) 0 0 (tA θ) :=
  k_met (by decide +kernel) (Nat.le_of_ble_eq_true rfl) (fun p e s m args below meth c C ls hl hw => t_X2_solve_0 C N _ _ _ h _ _ ls (lv_sub hl [0] rfl) hw va_S.rf)
abbrev rm_X2_corners : Room := { frames := 5, cells := 0, slots := 0, locals := 127 }
def J_X2_corners_0 (θ : Th) (p : Program) (l : Launch) (e : Env) (s : State) (m : MethodId) (args : Array Value) (below : List Frame) (meth : Method) (c : Code) (g : Mm → Option (Int32 × Mm)) : Prop := ∀ (M : Mm) (r : Int32) (M1 : Mm), g M = some (r, M1) → ∀ (H : Heap) (locs : List Loc) (ls : Array Slot), lv_has ls 1 [(0, .ref (tad θ 0))] → wd θ M H → va_S (tA θ) s.heap H locs → W p l e rm_X2_corners s m args below meth c H locs 0 0 (MQ below (qI θ r M1) args s 0 0 (tA θ)) (F0 m 0 ls [])
def b_X2_corners_0 (N : Nat) (M : Mm) : Option (Int32 × Mm) :=
  (f_X2_traceBends N M).bind fun (r1, M1) => some (r1, M1)
set_option maxRecDepth 100000 in
set_option maxHeartbeats 4000000 in
theorem t_X2_corners_0 {θ : Th} {p : Program} {l : Launch} {e : Env} {s : State} {m : MethodId} {args : Array Value} {below : List Frame} {meth : Method} {c : Code} (C : Cx θ p s m args meth c cX2_corners 1 RX2 (some .int)) (N : Nat) : J_X2_corners_0 θ p l e s m args below meth c (b_X2_corners_0 N) := by
  intro M r M1 h H locs ls hl hw hS
  unfold b_X2_corners_0 at h
  refine lv_aload_n C.1 C.2.1 dX2_corners_0 rfl (lv_at hl 0 rfl) ?_
  obtain ⟨⟨r1, M1⟩, h1, h⟩ := bind_s h
  dsimp only at h
  refine k_ci (k_runV (As := []) C cf_X2_traceBends cv_X2_traceBends w_219 rc0 (c_X2_traceBends θ l N h1) ⟨rfl, rfl, Nat.le_of_ble_eq_true rfl, Nat.le_of_ble_eq_true rfl⟩ rfl hl.1 rfl (Nat.le_of_ble_eq_true rfl) dX2_corners_1 ⟨Nat.zero_le _, Nat.zero_le _⟩ hw) hS (fun H locs hw hS => ?_)
  cases h
  exact k_reti C hw hS dX2_corners_4
def f_X2_corners (N : Nat) (M : Mm) : Option (Int32 × Mm) := b_X2_corners_0 N M
set_option maxRecDepth 100000 in
theorem c_X2_corners (θ : Th) (l : Launch) (N : Nat) {M : Mm} {r : Int32} {M1 : Mm} (h : f_X2_corners N M = some (r, M1)) : Met l yX2_corners (gws yX2_corners cX2_corners 1 (some .int)) rm_X2_corners (va_Pc [.ref (tad θ 0)] (wU θ M)) (qI θ r M1) 0 0 (tA θ) :=
  k_met (by decide +kernel) (Nat.le_of_ble_eq_true rfl) (fun p e s m args below meth c C ls hl hw => t_X2_corners_0 C N _ _ _ h _ _ ls (lv_sub hl [0] rfl) hw va_S.rf)
