abbrev rm_X3_refuses : Room := { frames := 0, cells := 0, slots := 0, locals := 0 }
def J_X3_refuses_35 (θ : Th) (p : Program) (l : Launch) (e : Env) (s : State) (m : MethodId) (args : Array Value) (below : List Frame) (meth : Method) (c : Code) (g : Int32 → Mm → Option (Int32 × Mm)) : Prop := ∀ (s0 : Int32) (M : Mm) (r : Int32) (M1 : Mm), g s0 M = some (r, M1) → ∀ (H : Heap) (locs : List Loc) (ls : Array Slot), lv_has ls 5 [(0, .ref (tad θ 3))] → wd θ M H → va_S (tA θ) s.heap H locs → W p l e rm_X3_refuses s m args below meth c H locs 0 0 (MQ below (qI θ r M1) args s 0 0 (tA θ)) (F0 m 35 ls [.int s0, .ref (tad θ 3)])
def J_X3_refuses_0 (θ : Th) (p : Program) (l : Launch) (e : Env) (s : State) (m : MethodId) (args : Array Value) (below : List Frame) (meth : Method) (c : Code) (g : Int32 → Int32 → Int32 → Int32 → Mm → Option (Int32 × Mm)) : Prop := ∀ (x1 : Int32) (x2 : Int32) (x3 : Int32) (x4 : Int32) (M : Mm) (r : Int32) (M1 : Mm), g x1 x2 x3 x4 M = some (r, M1) → ∀ (H : Heap) (locs : List Loc) (ls : Array Slot), lv_has ls 5 [(0, .ref (tad θ 3)), (1, .int x1), (2, .int x2), (3, .int x3), (4, .int x4)] → wd θ M H → va_S (tA θ) s.heap H locs → W p l e rm_X3_refuses s m args below meth c H locs 0 0 (MQ below (qI θ r M1) args s 0 0 (tA θ)) (F0 m 0 ls [])
def b_X3_refuses_35 (N : Nat) (s0 : Int32) (M : Mm) : Option (Int32 × Mm) :=
  (if ((wI M 6 s0).1 6) ≤ 0 then some (0, (wI M 6 s0)) else some (1, (wI M 6 s0)))
set_option maxRecDepth 100000 in
set_option maxHeartbeats 4000000 in
theorem t_X3_refuses_35 {θ : Th} {p : Program} {l : Launch} {e : Env} {s : State} {m : MethodId} {args : Array Value} {below : List Frame} {meth : Method} {c : Code} (C : Cx θ p s m args meth c cX3_refuses 5 RX3 (some .boolean)) (N : Nat) : J_X3_refuses_35 θ p l e s m args below meth c (b_X3_refuses_35 N) := by
  intro s0 M r M1 h H locs ls hl hw hS
  unfold b_X3_refuses_35 at h
  refine pf_X3_thrown C hw hS w_532 dX3_refuses_35 (fun H locs hw hS => ?_)
  refine lv_aload_n C.1 C.2.1 dX3_refuses_38 rfl (lv_at hl 0 rfl) ?_
  refine gf_X3_thrown C hw w_532 dX3_refuses_39 ?_
  refine lv_if_le (tgt := 49) C.1 C.2.1 dX3_refuses_42 (by decide) (fun c42 => ?_) (fun c42 => ?_)
  · have h := it_t c42 h
    refine lv_iconst (v := 0) C.1 C.2.1 dX3_refuses_49 (by decide) ?_
    cases h
    exact k_retz C hw hS (Or.inl rfl) dX3_refuses_50
  · have h := it_f c42 h
    refine lv_iconst (v := 1) C.1 C.2.1 dX3_refuses_45 (by decide) ?_
    refine lv_goto (tgt := 50) C.1 C.2.1 dX3_refuses_46 (by decide) ?_
    cases h
    exact k_retz C hw hS (Or.inr rfl) dX3_refuses_50
def b_X3_refuses_0 (N : Nat) (x1 : Int32) (x2 : Int32) (x3 : Int32) (x4 : Int32) (M : Mm) : Option (Int32 × Mm) :=
  (if x1 = 0 then (if x2 = 0 then (if x3 = 0 then (if x4 = 0 then b_X3_refuses_35 N 0 M else b_X3_refuses_35 N 4 M) else b_X3_refuses_35 N 3 M) else b_X3_refuses_35 N 2 M) else b_X3_refuses_35 N 1 M)
set_option maxRecDepth 100000 in
set_option maxHeartbeats 4000000 in
theorem t_X3_refuses_0 {θ : Th} {p : Program} {l : Launch} {e : Env} {s : State} {m : MethodId} {args : Array Value} {below : List Frame} {meth : Method} {c : Code} (C : Cx θ p s m args meth c cX3_refuses 5 RX3 (some .boolean)) (N : Nat) : J_X3_refuses_0 θ p l e s m args below meth c (b_X3_refuses_0 N) := by
  intro x1 x2 x3 x4 M r M1 h H locs ls hl hw hS
  unfold b_X3_refuses_0 at h
  refine lv_aload_n C.1 C.2.1 dX3_refuses_0 rfl (lv_at hl 0 rfl) ?_
  refine lv_iload_n C.1 C.2.1 dX3_refuses_1 rfl (lv_at hl 1 rfl) ?_
  refine lv_if_eq (tgt := 9) C.1 C.2.1 dX3_refuses_2 (by decide) (fun c2 => ?_) (fun c2 => ?_)
  · have h := it_t c2 h
    refine lv_iload_n C.1 C.2.1 dX3_refuses_9 rfl (lv_at hl 2 rfl) ?_
    refine lv_if_eq (tgt := 17) C.1 C.2.1 dX3_refuses_10 (by decide) (fun c10 => ?_) (fun c10 => ?_)
    · have h := it_t c10 h
      refine lv_iload_n C.1 C.2.1 dX3_refuses_17 rfl (lv_at hl 3 rfl) ?_
      refine lv_if_eq (tgt := 25) C.1 C.2.1 dX3_refuses_18 (by decide) (fun c18 => ?_) (fun c18 => ?_)
      · have h := it_t c18 h
        refine lv_iload C.1 C.2.1 dX3_refuses_25 (lv_at hl 4 rfl) ?_
        refine lv_if_eq (tgt := 34) C.1 C.2.1 dX3_refuses_27 (by decide) (fun c27 => ?_) (fun c27 => ?_)
        · have h := it_t c27 h
          refine lv_iconst (v := 0) C.1 C.2.1 dX3_refuses_34 (by decide) ?_
          exact t_X3_refuses_35 C N _ _ _ _ h _ _ ls (lv_sub hl [0] rfl) hw hS
        · have h := it_f c27 h
          refine lv_iconst (v := 4) C.1 C.2.1 dX3_refuses_30 (by decide) ?_
          refine lv_goto (tgt := 35) C.1 C.2.1 dX3_refuses_31 (by decide) ?_
          exact t_X3_refuses_35 C N _ _ _ _ h _ _ ls (lv_sub hl [0] rfl) hw hS
      · have h := it_f c18 h
        refine lv_iconst (v := 3) C.1 C.2.1 dX3_refuses_21 (by decide) ?_
        refine lv_goto (tgt := 35) C.1 C.2.1 dX3_refuses_22 (by decide) ?_
        exact t_X3_refuses_35 C N _ _ _ _ h _ _ ls (lv_sub hl [0] rfl) hw hS
    · have h := it_f c10 h
      refine lv_iconst (v := 2) C.1 C.2.1 dX3_refuses_13 (by decide) ?_
      refine lv_goto (tgt := 35) C.1 C.2.1 dX3_refuses_14 (by decide) ?_
      exact t_X3_refuses_35 C N _ _ _ _ h _ _ ls (lv_sub hl [0] rfl) hw hS
  · have h := it_f c2 h
    refine lv_iconst (v := 1) C.1 C.2.1 dX3_refuses_5 (by decide) ?_
    refine lv_goto (tgt := 35) C.1 C.2.1 dX3_refuses_6 (by decide) ?_
    exact t_X3_refuses_35 C N _ _ _ _ h _ _ ls (lv_sub hl [0] rfl) hw hS
def f_X3_refuses (N : Nat) (x1 : Int32) (x2 : Int32) (x3 : Int32) (x4 : Int32) (M : Mm) : Option (Int32 × Mm) := b_X3_refuses_0 N x1 x2 x3 x4 M
set_option maxRecDepth 100000 in
theorem c_X3_refuses (θ : Th) (l : Launch) (N : Nat) {x1 : Int32} {x2 : Int32} {x3 : Int32} {x4 : Int32} {M : Mm} {r : Int32} {M1 : Mm} (h : f_X3_refuses N x1 x2 x3 x4 M = some (r, M1)) : Met l yX3_refuses (gws yX3_refuses cX3_refuses 5 (some .boolean)) rm_X3_refuses (va_Pc [.ref (tad θ 3), .int x1, .int x2, .int x3, .int x4] (wU θ M)) (qI θ r M1) 0 0 (tA θ) :=
  k_met (by decide +kernel) (Nat.le_of_ble_eq_true rfl) (fun p e s m args below meth c C ls hl hw => t_X3_refuses_0 C N _ _ _ _ _ _ _ h _ _ ls (lv_sub hl [0, 1, 2, 3, 4] rfl) hw va_S.rf)
abbrev rm_X3_thrown : Room := { frames := 0, cells := 0, slots := 0, locals := 0 }
def J_X3_thrown_0 (θ : Th) (p : Program) (l : Launch) (e : Env) (s : State) (m : MethodId) (args : Array Value) (below : List Frame) (meth : Method) (c : Code) (g : Mm → Option (Int32 × Mm)) : Prop := ∀ (M : Mm) (r : Int32) (M1 : Mm), g M = some (r, M1) → ∀ (H : Heap) (locs : List Loc) (ls : Array Slot), lv_has ls 1 [(0, .ref (tad θ 3))] → wd θ M H → va_S (tA θ) s.heap H locs → W p l e rm_X3_thrown s m args below meth c H locs 0 0 (MQ below (qI θ r M1) args s 0 0 (tA θ)) (F0 m 0 ls [])
def b_X3_thrown_0 (N : Nat) (M : Mm) : Option (Int32 × Mm) :=
  some ((M.1 6), M)
set_option maxRecDepth 100000 in
set_option maxHeartbeats 4000000 in
theorem t_X3_thrown_0 {θ : Th} {p : Program} {l : Launch} {e : Env} {s : State} {m : MethodId} {args : Array Value} {below : List Frame} {meth : Method} {c : Code} (C : Cx θ p s m args meth c cX3_thrown 1 RX3 (some .int)) (N : Nat) : J_X3_thrown_0 θ p l e s m args below meth c (b_X3_thrown_0 N) := by
  intro M r M1 h H locs ls hl hw hS
  unfold b_X3_thrown_0 at h
  refine lv_aload_n C.1 C.2.1 dX3_thrown_0 rfl (lv_at hl 0 rfl) ?_
  refine gf_X3_thrown C hw w_532 dX3_thrown_1 ?_
  cases h
  exact k_reti C hw hS dX3_thrown_4
def f_X3_thrown (N : Nat) (M : Mm) : Option (Int32 × Mm) := b_X3_thrown_0 N M
set_option maxRecDepth 100000 in
theorem c_X3_thrown (θ : Th) (l : Launch) (N : Nat) {M : Mm} {r : Int32} {M1 : Mm} (h : f_X3_thrown N M = some (r, M1)) : Met l yX3_thrown (gws yX3_thrown cX3_thrown 1 (some .int)) rm_X3_thrown (va_Pc [.ref (tad θ 3)] (wU θ M)) (qI θ r M1) 0 0 (tA θ) :=
  k_met (by decide +kernel) (Nat.le_of_ble_eq_true rfl) (fun p e s m args below meth c C ls hl hw => t_X3_thrown_0 C N _ _ _ h _ _ ls (lv_sub hl [0] rfl) hw va_S.rf)
abbrev rm_X3_outside : Room := { frames := 0, cells := 0, slots := 0, locals := 0 }
def J_X3_outside_0 (θ : Th) (p : Program) (l : Launch) (e : Env) (s : State) (m : MethodId) (args : Array Value) (below : List Frame) (meth : Method) (c : Code) (g : Int32 → Int32 → Int32 → Mm → Option (Int32 × Mm)) : Prop := ∀ (x0 : Int32) (x1 : Int32) (x2 : Int32) (M : Mm) (r : Int32) (M1 : Mm), g x0 x1 x2 M = some (r, M1) → ∀ (H : Heap) (locs : List Loc) (ls : Array Slot), lv_has ls 3 [(0, .int x0), (1, .int x1), (2, .int x2)] → wd θ M H → va_S (tA θ) s.heap H locs → W p l e rm_X3_outside s m args below meth c H locs 0 0 (MQ below (qI θ r M1) args s 0 0 (tA θ)) (F0 m 0 ls [])
def b_X3_outside_0 (N : Nat) (x0 : Int32) (x1 : Int32) (x2 : Int32) (M : Mm) : Option (Int32 × Mm) :=
  (if x0 < x1 then some (1, M) else (if x0 ≤ x2 then some (0, M) else some (1, M)))
set_option maxRecDepth 100000 in
set_option maxHeartbeats 4000000 in
theorem t_X3_outside_0 {θ : Th} {p : Program} {l : Launch} {e : Env} {s : State} {m : MethodId} {args : Array Value} {below : List Frame} {meth : Method} {c : Code} (C : Cx θ p s m args meth c cX3_outside 3 RX3 (some .boolean)) (N : Nat) : J_X3_outside_0 θ p l e s m args below meth c (b_X3_outside_0 N) := by
  intro x0 x1 x2 M r M1 h H locs ls hl hw hS
  unfold b_X3_outside_0 at h
  refine lv_iload_n C.1 C.2.1 dX3_outside_0 rfl (lv_at hl 0 rfl) ?_
  refine lv_iload_n C.1 C.2.1 dX3_outside_1 rfl (lv_at hl 1 rfl) ?_
  refine lv_icmp_lt (tgt := 10) C.1 C.2.1 dX3_outside_2 (by decide) (fun c2 => ?_) (fun c2 => ?_)
  · have h := it_t c2 h
    refine lv_iconst (v := 1) C.1 C.2.1 dX3_outside_10 (by decide) ?_
    refine lv_goto (tgt := 15) C.1 C.2.1 dX3_outside_11 (by decide) ?_
    cases h
    exact k_retz C hw hS (Or.inr rfl) dX3_outside_15
  · have h := it_f c2 h
    refine lv_iload_n C.1 C.2.1 dX3_outside_5 rfl (lv_at hl 0 rfl) ?_
    refine lv_iload_n C.1 C.2.1 dX3_outside_6 rfl (lv_at hl 2 rfl) ?_
    refine lv_icmp_le (tgt := 14) C.1 C.2.1 dX3_outside_7 (by decide) (fun c7 => ?_) (fun c7 => ?_)
    · have h := it_t c7 h
      refine lv_iconst (v := 0) C.1 C.2.1 dX3_outside_14 (by decide) ?_
      cases h
      exact k_retz C hw hS (Or.inl rfl) dX3_outside_15
    · have h := it_f c7 h
      refine lv_iconst (v := 1) C.1 C.2.1 dX3_outside_10 (by decide) ?_
      refine lv_goto (tgt := 15) C.1 C.2.1 dX3_outside_11 (by decide) ?_
      cases h
      exact k_retz C hw hS (Or.inr rfl) dX3_outside_15
def f_X3_outside (N : Nat) (x0 : Int32) (x1 : Int32) (x2 : Int32) (M : Mm) : Option (Int32 × Mm) := b_X3_outside_0 N x0 x1 x2 M
set_option maxRecDepth 100000 in
theorem c_X3_outside (θ : Th) (l : Launch) (N : Nat) {x0 : Int32} {x1 : Int32} {x2 : Int32} {M : Mm} {r : Int32} {M1 : Mm} (h : f_X3_outside N x0 x1 x2 M = some (r, M1)) : Met l yX3_outside (gws yX3_outside cX3_outside 3 (some .boolean)) rm_X3_outside (va_Pc [.int x0, .int x1, .int x2] (wU θ M)) (qI θ r M1) 0 0 (tA θ) :=
  k_met (by decide +kernel) (Nat.le_of_ble_eq_true rfl) (fun p e s m args below meth c C ls hl hw => t_X3_outside_0 C N _ _ _ _ _ _ h _ _ ls (lv_sub hl [0, 1, 2] rfl) hw va_S.rf)
abbrev rm_X3_begin : Room := { frames := 1, cells := 0, slots := 0, locals := 24 }
def J_X3_begin_87 (θ : Th) (p : Program) (l : Launch) (e : Env) (s : State) (m : MethodId) (args : Array Value) (below : List Frame) (meth : Method) (c : Code) (g : Int32 → Mm → Option Mm) : Prop := ∀ (x3 : Int32) (M : Mm) (M1 : Mm), g x3 M = some M1 → ∀ (H : Heap) (locs : List Loc) (ls : Array Slot), lv_has ls 4 [(0, .ref (tad θ 3)), (3, .int x3)] → wd θ M H → va_S (tA θ) s.heap H locs → W p l e rm_X3_begin s m args below meth c H locs 0 0 (MQ below (qV θ M1) args s 0 0 (tA θ)) (F0 m 87 ls [])
def J_X3_begin_67 (θ : Th) (p : Program) (l : Launch) (e : Env) (s : State) (m : MethodId) (args : Array Value) (below : List Frame) (meth : Method) (c : Code) (g : Int32 → Mm → Option Mm) : Prop := ∀ (x3 : Int32) (M : Mm) (M1 : Mm), g x3 M = some M1 → ∀ (H : Heap) (locs : List Loc) (ls : Array Slot), lv_has ls 4 [(0, .ref (tad θ 3)), (3, .int x3)] → wd θ M H → va_S (tA θ) s.heap H locs → W p l e rm_X3_begin s m args below meth c H locs 0 0 (MQ below (qV θ M1) args s 0 0 (tA θ)) (F0 m 67 ls [])
def J_X3_begin_46 (θ : Th) (p : Program) (l : Launch) (e : Env) (s : State) (m : MethodId) (args : Array Value) (below : List Frame) (meth : Method) (c : Code) (g : Int32 → Mm → Option Mm) : Prop := ∀ (x3 : Int32) (M : Mm) (M1 : Mm), g x3 M = some M1 → ∀ (H : Heap) (locs : List Loc) (ls : Array Slot), lv_has ls 4 [(0, .ref (tad θ 3)), (3, .int x3)] → wd θ M H → va_S (tA θ) s.heap H locs → W p l e rm_X3_begin s m args below meth c H locs 0 0 (MQ below (qV θ M1) args s 0 0 (tA θ)) (F0 m 46 ls [])
def J_X3_begin_24 (θ : Th) (p : Program) (l : Launch) (e : Env) (s : State) (m : MethodId) (args : Array Value) (below : List Frame) (meth : Method) (c : Code) (g : Int32 → Int32 → Int32 → Mm → Option Mm) : Prop := ∀ (x1 : Int32) (x2 : Int32) (s0 : Int32) (M : Mm) (M1 : Mm), g x1 x2 s0 M = some M1 → ∀ (H : Heap) (locs : List Loc) (ls : Array Slot), lv_has ls 4 [(0, .ref (tad θ 3)), (1, .int x1), (2, .int x2)] → wd θ M H → va_S (tA θ) s.heap H locs → W p l e rm_X3_begin s m args below meth c H locs 0 0 (MQ below (qV θ M1) args s 0 0 (tA θ)) (F0 m 24 ls [.int s0, .ref (tad θ 3)])
def J_X3_begin_19 (θ : Th) (p : Program) (l : Launch) (e : Env) (s : State) (m : MethodId) (args : Array Value) (below : List Frame) (meth : Method) (c : Code) (g : Int32 → Int32 → Mm → Option Mm) : Prop := ∀ (x1 : Int32) (x2 : Int32) (M : Mm) (M1 : Mm), g x1 x2 M = some M1 → ∀ (H : Heap) (locs : List Loc) (ls : Array Slot), lv_has ls 4 [(0, .ref (tad θ 3)), (1, .int x1), (2, .int x2)] → wd θ M H → va_S (tA θ) s.heap H locs → W p l e rm_X3_begin s m args below meth c H locs 0 0 (MQ below (qV θ M1) args s 0 0 (tA θ)) (F0 m 19 ls [.ref (tad θ 3)])
def J_X3_begin_0 (θ : Th) (p : Program) (l : Launch) (e : Env) (s : State) (m : MethodId) (args : Array Value) (below : List Frame) (meth : Method) (c : Code) (g : Int32 → Int32 → Mm → Option Mm) : Prop := ∀ (x1 : Int32) (x2 : Int32) (M : Mm) (M1 : Mm), g x1 x2 M = some M1 → ∀ (H : Heap) (locs : List Loc) (ls : Array Slot), lv_has ls 4 [(0, .ref (tad θ 3)), (1, .int x1), (2, .int x2)] → wd θ M H → va_S (tA θ) s.heap H locs → W p l e rm_X3_begin s m args below meth c H locs 0 0 (MQ below (qV θ M1) args s 0 0 (tA θ)) (F0 m 0 ls [])
def F_X3_begin_87 (N : Nat) (k87 : Int32 → Mm → Option Mm) (x3 : Int32) (M : Mm) : Option Mm :=
  (if 3 ≤ x3 then some M else (wA M 7 x3 0).bind fun M98 => (wA M98 9 x3 0).bind fun M105 => (wA M105 10 x3 0).bind fun M112 => k87 (x3 + 1) M112)
abbrev b_X3_begin_87 (N : Nat) : Int32 → Mm → Option Mm := lpT (fun _ _ => none) (F_X3_begin_87 N) N
set_option maxRecDepth 100000 in
set_option maxHeartbeats 4000000 in
theorem tF_X3_begin_87 {θ : Th} {p : Program} {l : Launch} {e : Env} {s : State} {m : MethodId} {args : Array Value} {below : List Frame} {meth : Method} {c : Code} (C : Cx θ p s m args meth c cX3_begin 4 RX3 none) (N : Nat) {k87 : Int32 → Mm → Option Mm} (hk87 : J_X3_begin_87 θ p l e s m args below meth c k87) : J_X3_begin_87 θ p l e s m args below meth c (F_X3_begin_87 N k87) := by
  intro x3 M M1 h H locs ls hl hw hS
  unfold F_X3_begin_87 at h
  refine lv_iload_n C.1 C.2.1 dX3_begin_87 rfl (lv_at hl 1 rfl) ?_
  refine lv_iconst (v := 3) C.1 C.2.1 dX3_begin_88 (by decide) ?_
  refine lv_icmp_ge (tgt := 119) C.1 C.2.1 dX3_begin_89 (by decide) (fun c89 => ?_) (fun c89 => ?_)
  · have h := it_t c89 h
    cases h
    exact k_retv C hw hS dX3_begin_119
  · have h := it_f c89 h
    refine lv_aload_n C.1 C.2.1 dX3_begin_92 rfl (lv_at hl 0 rfl) ?_
    refine gf_X3_b C hw w_528 dX3_begin_93 ?_
    refine lv_iload_n C.1 C.2.1 dX3_begin_96 rfl (lv_at hl 1 rfl) ?_
    refine lv_iconst (v := 0) C.1 C.2.1 dX3_begin_97 (by decide) ?_
    obtain ⟨M98, h98, h⟩ := bind_s h
    refine k_iast C hw hS 7 (by decide) h98 dX3_begin_98 (fun H locs hw hS => ?_)
    refine lv_aload_n C.1 C.2.1 dX3_begin_99 rfl (lv_at hl 0 rfl) ?_
    refine gf_X3_e C hw w_530 dX3_begin_100 ?_
    refine lv_iload_n C.1 C.2.1 dX3_begin_103 rfl (lv_at hl 1 rfl) ?_
    refine lv_iconst (v := 0) C.1 C.2.1 dX3_begin_104 (by decide) ?_
    obtain ⟨M105, h105, h⟩ := bind_s h
    refine k_iast C hw hS 9 (by decide) h105 dX3_begin_105 (fun H locs hw hS => ?_)
    refine lv_aload_n C.1 C.2.1 dX3_begin_106 rfl (lv_at hl 0 rfl) ?_
    refine gf_X3_senses C hw w_531 dX3_begin_107 ?_
    refine lv_iload_n C.1 C.2.1 dX3_begin_110 rfl (lv_at hl 1 rfl) ?_
    refine lv_iconst (v := 0) C.1 C.2.1 dX3_begin_111 (by decide) ?_
    obtain ⟨M112, h112, h⟩ := bind_s h
    refine k_iast C hw hS 10 (by decide) h112 dX3_begin_112 (fun H locs hw hS => ?_)
    refine lv_iinc (v := (x3 + 1)) (lv' := [(3, .int (x3 + 1)), (0, .ref (tad θ 3))]) C.1 C.2.1 dX3_begin_113 hl (k := 1) rfl rfl (by decide) rfl (fun ls hl => ?_)
    refine lv_goto (tgt := 87) C.1 C.2.1 dX3_begin_116 (by decide) ?_
    exact hk87 _ _ _ h _ _ ls (lv_sub hl [1, 0] rfl) hw hS
theorem t_X3_begin_87 {θ : Th} {p : Program} {l : Launch} {e : Env} {s : State} {m : MethodId} {args : Array Value} {below : List Frame} {meth : Method} {c : Code} (C : Cx θ p s m args meth c cX3_begin 4 RX3 none) (N : Nat) : J_X3_begin_87 θ p l e s m args below meth c (b_X3_begin_87 N) := lpT_ind (J := J_X3_begin_87 θ p l e s m args below meth c) (fun _ _ _ h => by cases h) (fun k hk => tF_X3_begin_87 C N hk) N
def F_X3_begin_67 (N : Nat) (k67 : Int32 → Mm → Option Mm) (x3 : Int32) (M : Mm) : Option Mm :=
  (if 4 ≤ x3 then b_X3_begin_87 N 0 M else (wA M 8 x3 0).bind fun M78 => k67 (x3 + 1) M78)
abbrev b_X3_begin_67 (N : Nat) : Int32 → Mm → Option Mm := lpT (fun _ _ => none) (F_X3_begin_67 N) N
set_option maxRecDepth 100000 in
set_option maxHeartbeats 4000000 in
theorem tF_X3_begin_67 {θ : Th} {p : Program} {l : Launch} {e : Env} {s : State} {m : MethodId} {args : Array Value} {below : List Frame} {meth : Method} {c : Code} (C : Cx θ p s m args meth c cX3_begin 4 RX3 none) (N : Nat) {k67 : Int32 → Mm → Option Mm} (hk67 : J_X3_begin_67 θ p l e s m args below meth c k67) : J_X3_begin_67 θ p l e s m args below meth c (F_X3_begin_67 N k67) := by
  intro x3 M M1 h H locs ls hl hw hS
  unfold F_X3_begin_67 at h
  refine lv_iload_n C.1 C.2.1 dX3_begin_67 rfl (lv_at hl 1 rfl) ?_
  refine lv_iconst (v := 4) C.1 C.2.1 dX3_begin_68 (by decide) ?_
  refine lv_icmp_ge (tgt := 85) C.1 C.2.1 dX3_begin_69 (by decide) (fun c69 => ?_) (fun c69 => ?_)
  · have h := it_t c69 h
    refine lv_iconst (v := 0) C.1 C.2.1 dX3_begin_85 (by decide) ?_
    refine lv_istore_n (lv' := [(3, .int 0), (0, .ref (tad θ 3))]) C.1 C.2.1 dX3_begin_86 rfl hl (by decide) rfl (fun ls hl => ?_)
    exact t_X3_begin_87 C N _ _ _ h _ _ ls (lv_sub hl [1, 0] rfl) hw hS
  · have h := it_f c69 h
    refine lv_aload_n C.1 C.2.1 dX3_begin_72 rfl (lv_at hl 0 rfl) ?_
    refine gf_X3_c C hw w_529 dX3_begin_73 ?_
    refine lv_iload_n C.1 C.2.1 dX3_begin_76 rfl (lv_at hl 1 rfl) ?_
    refine lv_iconst (v := 0) C.1 C.2.1 dX3_begin_77 (by decide) ?_
    obtain ⟨M78, h78, h⟩ := bind_s h
    refine k_iast C hw hS 8 (by decide) h78 dX3_begin_78 (fun H locs hw hS => ?_)
    refine lv_iinc (v := (x3 + 1)) (lv' := [(3, .int (x3 + 1)), (0, .ref (tad θ 3))]) C.1 C.2.1 dX3_begin_79 hl (k := 1) rfl rfl (by decide) rfl (fun ls hl => ?_)
    refine lv_goto (tgt := 67) C.1 C.2.1 dX3_begin_82 (by decide) ?_
    exact hk67 _ _ _ h _ _ ls (lv_sub hl [1, 0] rfl) hw hS
theorem t_X3_begin_67 {θ : Th} {p : Program} {l : Launch} {e : Env} {s : State} {m : MethodId} {args : Array Value} {below : List Frame} {meth : Method} {c : Code} (C : Cx θ p s m args meth c cX3_begin 4 RX3 none) (N : Nat) : J_X3_begin_67 θ p l e s m args below meth c (b_X3_begin_67 N) := lpT_ind (J := J_X3_begin_67 θ p l e s m args below meth c) (fun _ _ _ h => by cases h) (fun k hk => tF_X3_begin_67 C N hk) N
def F_X3_begin_46 (N : Nat) (k46 : Int32 → Mm → Option Mm) (x3 : Int32) (M : Mm) : Option Mm :=
  (if 12 ≤ x3 then b_X3_begin_67 N 0 M else (wA M 6 x3 0).bind fun M58 => k46 (x3 + 1) M58)
abbrev b_X3_begin_46 (N : Nat) : Int32 → Mm → Option Mm := lpT (fun _ _ => none) (F_X3_begin_46 N) N
set_option maxRecDepth 100000 in
set_option maxHeartbeats 4000000 in
theorem tF_X3_begin_46 {θ : Th} {p : Program} {l : Launch} {e : Env} {s : State} {m : MethodId} {args : Array Value} {below : List Frame} {meth : Method} {c : Code} (C : Cx θ p s m args meth c cX3_begin 4 RX3 none) (N : Nat) {k46 : Int32 → Mm → Option Mm} (hk46 : J_X3_begin_46 θ p l e s m args below meth c k46) : J_X3_begin_46 θ p l e s m args below meth c (F_X3_begin_46 N k46) := by
  intro x3 M M1 h H locs ls hl hw hS
  unfold F_X3_begin_46 at h
  refine lv_iload_n C.1 C.2.1 dX3_begin_46 rfl (lv_at hl 1 rfl) ?_
  refine lv_bipush (v := 12) C.1 C.2.1 dX3_begin_47 (by decide) ?_
  refine lv_icmp_ge (tgt := 65) C.1 C.2.1 dX3_begin_49 (by decide) (fun c49 => ?_) (fun c49 => ?_)
  · have h := it_t c49 h
    refine lv_iconst (v := 0) C.1 C.2.1 dX3_begin_65 (by decide) ?_
    refine lv_istore_n (lv' := [(3, .int 0), (0, .ref (tad θ 3))]) C.1 C.2.1 dX3_begin_66 rfl hl (by decide) rfl (fun ls hl => ?_)
    exact t_X3_begin_67 C N _ _ _ h _ _ ls (lv_sub hl [1, 0] rfl) hw hS
  · have h := it_f c49 h
    refine lv_aload_n C.1 C.2.1 dX3_begin_52 rfl (lv_at hl 0 rfl) ?_
    refine gf_X3_a C hw w_527 dX3_begin_53 ?_
    refine lv_iload_n C.1 C.2.1 dX3_begin_56 rfl (lv_at hl 1 rfl) ?_
    refine lv_iconst (v := 0) C.1 C.2.1 dX3_begin_57 (by decide) ?_
    obtain ⟨M58, h58, h⟩ := bind_s h
    refine k_iast C hw hS 6 (by decide) h58 dX3_begin_58 (fun H locs hw hS => ?_)
    refine lv_iinc (v := (x3 + 1)) (lv' := [(3, .int (x3 + 1)), (0, .ref (tad θ 3))]) C.1 C.2.1 dX3_begin_59 hl (k := 1) rfl rfl (by decide) rfl (fun ls hl => ?_)
    refine lv_goto (tgt := 46) C.1 C.2.1 dX3_begin_62 (by decide) ?_
    exact hk46 _ _ _ h _ _ ls (lv_sub hl [1, 0] rfl) hw hS
theorem t_X3_begin_46 {θ : Th} {p : Program} {l : Launch} {e : Env} {s : State} {m : MethodId} {args : Array Value} {below : List Frame} {meth : Method} {c : Code} (C : Cx θ p s m args meth c cX3_begin 4 RX3 none) (N : Nat) : J_X3_begin_46 θ p l e s m args below meth c (b_X3_begin_46 N) := lpT_ind (J := J_X3_begin_46 θ p l e s m args below meth c) (fun _ _ _ h => by cases h) (fun k hk => tF_X3_begin_46 C N hk) N
def b_X3_begin_24 (N : Nat) (x1 : Int32) (x2 : Int32) (s0 : Int32) (M : Mm) : Option Mm :=
  (f_X3_refuses N s0 0 0 0 M).bind fun (r27, M27) => (if r27 = 0 then b_X3_begin_46 N 0 (wI (wI M27 4 x1) 5 x2) else some M27)
set_option maxRecDepth 100000 in
set_option maxHeartbeats 4000000 in
theorem t_X3_begin_24 {θ : Th} {p : Program} {l : Launch} {e : Env} {s : State} {m : MethodId} {args : Array Value} {below : List Frame} {meth : Method} {c : Code} (C : Cx θ p s m args meth c cX3_begin 4 RX3 none) (N : Nat) : J_X3_begin_24 θ p l e s m args below meth c (b_X3_begin_24 N) := by
  intro x1 x2 s0 M M1 h H locs ls hl hw hS
  unfold b_X3_begin_24 at h
  refine lv_iconst (v := 0) C.1 C.2.1 dX3_begin_24 (by decide) ?_
  refine lv_iconst (v := 0) C.1 C.2.1 dX3_begin_25 (by decide) ?_
  refine lv_iconst (v := 0) C.1 C.2.1 dX3_begin_26 (by decide) ?_
  obtain ⟨⟨r27, M27⟩, h27, h⟩ := bind_s h
  dsimp only at h
  refine k_ci (k_runV (As := [.int s0, .int 0, .int 0, .int 0]) C cf_X3_refuses cv_X3_refuses w_597 rc3 (c_X3_refuses θ l N h27) ⟨rfl, rfl, Nat.le_of_ble_eq_true rfl, Nat.le_of_ble_eq_true rfl⟩ rfl hl.1 rfl (Nat.le_of_ble_eq_true rfl) dX3_begin_27 ⟨Nat.zero_le _, Nat.zero_le _⟩ hw) hS (fun H locs hw hS => ?_)
  refine lv_if_eq (tgt := 34) C.1 C.2.1 dX3_begin_30 (by decide) (fun c30 => ?_) (fun c30 => ?_)
  · have h := it_t c30 h
    refine lv_aload_n C.1 C.2.1 dX3_begin_34 rfl (lv_at hl 0 rfl) ?_
    refine lv_iload_n C.1 C.2.1 dX3_begin_35 rfl (lv_at hl 1 rfl) ?_
    refine pf_X3_n C hw hS w_525 dX3_begin_36 (fun H locs hw hS => ?_)
    refine lv_aload_n C.1 C.2.1 dX3_begin_39 rfl (lv_at hl 0 rfl) ?_
    refine lv_iload_n C.1 C.2.1 dX3_begin_40 rfl (lv_at hl 2 rfl) ?_
    refine pf_X3_m C hw hS w_526 dX3_begin_41 (fun H locs hw hS => ?_)
    refine lv_iconst (v := 0) C.1 C.2.1 dX3_begin_44 (by decide) ?_
    refine lv_istore_n (lv' := [(3, .int 0), (0, .ref (tad θ 3)), (1, .int x1), (2, .int x2)]) C.1 C.2.1 dX3_begin_45 rfl hl (by decide) rfl (fun ls hl => ?_)
    exact t_X3_begin_46 C N _ _ _ h _ _ ls (lv_sub hl [1, 0] rfl) hw hS
  · have h := it_f c30 h
    cases h
    exact k_retv C hw hS dX3_begin_33
def b_X3_begin_19 (N : Nat) (x1 : Int32) (x2 : Int32) (M : Mm) : Option Mm :=
  b_X3_begin_24 N x1 x2 1 M
set_option maxRecDepth 100000 in
set_option maxHeartbeats 4000000 in
theorem t_X3_begin_19 {θ : Th} {p : Program} {l : Launch} {e : Env} {s : State} {m : MethodId} {args : Array Value} {below : List Frame} {meth : Method} {c : Code} (C : Cx θ p s m args meth c cX3_begin 4 RX3 none) (N : Nat) : J_X3_begin_19 θ p l e s m args below meth c (b_X3_begin_19 N) := by
  intro x1 x2 M M1 h H locs ls hl hw hS
  unfold b_X3_begin_19 at h
  refine lv_iconst (v := 1) C.1 C.2.1 dX3_begin_19 (by decide) ?_
  refine lv_goto (tgt := 24) C.1 C.2.1 dX3_begin_20 (by decide) ?_
  exact t_X3_begin_24 C N _ _ _ _ _ h _ _ ls (lv_sub hl [0, 1, 2] rfl) hw hS
def b_X3_begin_0 (N : Nat) (x1 : Int32) (x2 : Int32) (M : Mm) : Option Mm :=
  (f_X3_outside N x1 1 4 M).bind fun (r4, M4) => (if r4 = 0 then (f_X3_outside N x2 0 3 M4).bind fun (r13, M13) => (if r13 = 0 then b_X3_begin_24 N x1 x2 0 M13 else b_X3_begin_19 N x1 x2 M13) else b_X3_begin_19 N x1 x2 M4)
set_option maxRecDepth 100000 in
set_option maxHeartbeats 4000000 in
theorem t_X3_begin_0 {θ : Th} {p : Program} {l : Launch} {e : Env} {s : State} {m : MethodId} {args : Array Value} {below : List Frame} {meth : Method} {c : Code} (C : Cx θ p s m args meth c cX3_begin 4 RX3 none) (N : Nat) : J_X3_begin_0 θ p l e s m args below meth c (b_X3_begin_0 N) := by
  intro x1 x2 M M1 h H locs ls hl hw hS
  unfold b_X3_begin_0 at h
  refine lv_aload_n C.1 C.2.1 dX3_begin_0 rfl (lv_at hl 0 rfl) ?_
  refine lv_iload_n C.1 C.2.1 dX3_begin_1 rfl (lv_at hl 1 rfl) ?_
  refine lv_iconst (v := 1) C.1 C.2.1 dX3_begin_2 (by decide) ?_
  refine lv_iconst (v := 4) C.1 C.2.1 dX3_begin_3 (by decide) ?_
  obtain ⟨⟨r4, M4⟩, h4, h⟩ := bind_s h
  dsimp only at h
  refine k_ci (k_runS (As := [.int x1, .int 1, .int 4]) C cf_X3_outside cs_X3_outside w_594 (c_X3_outside θ l N h4) ⟨rfl, rfl, Nat.le_of_ble_eq_true rfl, Nat.le_of_ble_eq_true rfl⟩ rfl hl.1 rfl (Nat.le_of_ble_eq_true rfl) dX3_begin_4 ⟨Nat.zero_le _, Nat.zero_le _⟩ hw) hS (fun H locs hw hS => ?_)
  refine lv_if_ne (tgt := 19) C.1 C.2.1 dX3_begin_7 (by decide) (fun c7 => ?_) (fun c7 => ?_)
  · have h := it_f c7 h
    exact t_X3_begin_19 C N _ _ _ _ h _ _ ls (lv_sub hl [0, 1, 2] rfl) hw hS
  · have h := it_t c7 h
    refine lv_iload_n C.1 C.2.1 dX3_begin_10 rfl (lv_at hl 2 rfl) ?_
    refine lv_iconst (v := 0) C.1 C.2.1 dX3_begin_11 (by decide) ?_
    refine lv_iconst (v := 3) C.1 C.2.1 dX3_begin_12 (by decide) ?_
    obtain ⟨⟨r13, M13⟩, h13, h⟩ := bind_s h
    dsimp only at h
    refine k_ci (k_runS (As := [.int x2, .int 0, .int 3]) C cf_X3_outside cs_X3_outside w_594 (c_X3_outside θ l N h13) ⟨rfl, rfl, Nat.le_of_ble_eq_true rfl, Nat.le_of_ble_eq_true rfl⟩ rfl hl.1 rfl (Nat.le_of_ble_eq_true rfl) dX3_begin_13 ⟨Nat.zero_le _, Nat.zero_le _⟩ hw) hS (fun H locs hw hS => ?_)
    refine lv_if_eq (tgt := 23) C.1 C.2.1 dX3_begin_16 (by decide) (fun c16 => ?_) (fun c16 => ?_)
    · have h := it_t c16 h
      refine lv_iconst (v := 0) C.1 C.2.1 dX3_begin_23 (by decide) ?_
      exact t_X3_begin_24 C N _ _ _ _ _ h _ _ ls (lv_sub hl [0, 1, 2] rfl) hw hS
    · have h := it_f c16 h
      exact t_X3_begin_19 C N _ _ _ _ h _ _ ls (lv_sub hl [0, 1, 2] rfl) hw hS
def f_X3_begin (N : Nat) (x1 : Int32) (x2 : Int32) (M : Mm) : Option Mm := b_X3_begin_0 N x1 x2 M
set_option maxRecDepth 100000 in
theorem c_X3_begin (θ : Th) (l : Launch) (N : Nat) {x1 : Int32} {x2 : Int32} {M : Mm} {M1 : Mm} (h : f_X3_begin N x1 x2 M = some M1) : Met l yX3_begin (gws yX3_begin cX3_begin 4 none) rm_X3_begin (va_Pc [.ref (tad θ 3), .int x1, .int x2] (wU θ M)) (qV θ M1) 0 0 (tA θ) :=
  k_met (by decide +kernel) (Nat.le_of_ble_eq_true rfl) (fun p e s m args below meth c C ls hl hw => t_X3_begin_0 C N _ _ _ _ h _ _ ls (lv_sub hl [0, 1, 2] rfl) hw va_S.rf)
abbrev rm_X3_coefficient : Room := { frames := 1, cells := 0, slots := 0, locals := 24 }
def J_X3_coefficient_34 (θ : Th) (p : Program) (l : Launch) (e : Env) (s : State) (m : MethodId) (args : Array Value) (below : List Frame) (meth : Method) (c : Code) (g : Int32 → Int32 → Int32 → Int32 → Mm → Option Mm) : Prop := ∀ (x1 : Int32) (x2 : Int32) (x3 : Int32) (s0 : Int32) (M : Mm) (M1 : Mm), g x1 x2 x3 s0 M = some M1 → ∀ (H : Heap) (locs : List Loc) (ls : Array Slot), lv_has ls 4 [(0, .ref (tad θ 3)), (1, .int x1), (2, .int x2), (3, .int x3)] → wd θ M H → va_S (tA θ) s.heap H locs → W p l e rm_X3_coefficient s m args below meth c H locs 0 0 (MQ below (qV θ M1) args s 0 0 (tA θ)) (F0 m 34 ls [.int s0, .ref (tad θ 3)])
def J_X3_coefficient_29 (θ : Th) (p : Program) (l : Launch) (e : Env) (s : State) (m : MethodId) (args : Array Value) (below : List Frame) (meth : Method) (c : Code) (g : Int32 → Int32 → Int32 → Mm → Option Mm) : Prop := ∀ (x1 : Int32) (x2 : Int32) (x3 : Int32) (M : Mm) (M1 : Mm), g x1 x2 x3 M = some M1 → ∀ (H : Heap) (locs : List Loc) (ls : Array Slot), lv_has ls 4 [(0, .ref (tad θ 3)), (1, .int x1), (2, .int x2), (3, .int x3)] → wd θ M H → va_S (tA θ) s.heap H locs → W p l e rm_X3_coefficient s m args below meth c H locs 0 0 (MQ below (qV θ M1) args s 0 0 (tA θ)) (F0 m 29 ls [.ref (tad θ 3)])
def J_X3_coefficient_0 (θ : Th) (p : Program) (l : Launch) (e : Env) (s : State) (m : MethodId) (args : Array Value) (below : List Frame) (meth : Method) (c : Code) (g : Int32 → Int32 → Int32 → Mm → Option Mm) : Prop := ∀ (x1 : Int32) (x2 : Int32) (x3 : Int32) (M : Mm) (M1 : Mm), g x1 x2 x3 M = some M1 → ∀ (H : Heap) (locs : List Loc) (ls : Array Slot), lv_has ls 4 [(0, .ref (tad θ 3)), (1, .int x1), (2, .int x2), (3, .int x3)] → wd θ M H → va_S (tA θ) s.heap H locs → W p l e rm_X3_coefficient s m args below meth c H locs 0 0 (MQ below (qV θ M1) args s 0 0 (tA θ)) (F0 m 0 ls [])
def b_X3_coefficient_34 (N : Nat) (x1 : Int32) (x2 : Int32) (x3 : Int32) (s0 : Int32) (M : Mm) : Option Mm :=
  (f_X3_outside N x3 (-9) 9 M).bind fun (r39, M39) => (f_X3_refuses N s0 r39 0 0 M39).bind fun (r44, M44) => (if r44 = 0 then (wA M44 6 ((4 * x1) + x2) x3).bind fun M60 => some M60 else some M44)
set_option maxRecDepth 100000 in
set_option maxHeartbeats 4000000 in
theorem t_X3_coefficient_34 {θ : Th} {p : Program} {l : Launch} {e : Env} {s : State} {m : MethodId} {args : Array Value} {below : List Frame} {meth : Method} {c : Code} (C : Cx θ p s m args meth c cX3_coefficient 4 RX3 none) (N : Nat) : J_X3_coefficient_34 θ p l e s m args below meth c (b_X3_coefficient_34 N) := by
  intro x1 x2 x3 s0 M M1 h H locs ls hl hw hS
  unfold b_X3_coefficient_34 at h
  refine lv_iload_n C.1 C.2.1 dX3_coefficient_34 rfl (lv_at hl 3 rfl) ?_
  refine lv_bipush (v := (-9)) C.1 C.2.1 dX3_coefficient_35 (by decide) ?_
  refine lv_bipush (v := 9) C.1 C.2.1 dX3_coefficient_37 (by decide) ?_
  obtain ⟨⟨r39, M39⟩, h39, h⟩ := bind_s h
  dsimp only at h
  refine k_ci (k_runS (As := [.int x3, .int (-9), .int 9]) C cf_X3_outside cs_X3_outside w_594 (c_X3_outside θ l N h39) ⟨rfl, rfl, Nat.le_of_ble_eq_true rfl, Nat.le_of_ble_eq_true rfl⟩ rfl hl.1 rfl (Nat.le_of_ble_eq_true rfl) dX3_coefficient_39 ⟨Nat.zero_le _, Nat.zero_le _⟩ hw) hS (fun H locs hw hS => ?_)
  refine lv_iconst (v := 0) C.1 C.2.1 dX3_coefficient_42 (by decide) ?_
  refine lv_iconst (v := 0) C.1 C.2.1 dX3_coefficient_43 (by decide) ?_
  obtain ⟨⟨r44, M44⟩, h44, h⟩ := bind_s h
  dsimp only at h
  refine k_ci (k_runV (As := [.int s0, .int r39, .int 0, .int 0]) C cf_X3_refuses cv_X3_refuses w_597 rc3 (c_X3_refuses θ l N h44) ⟨rfl, rfl, Nat.le_of_ble_eq_true rfl, Nat.le_of_ble_eq_true rfl⟩ rfl hl.1 rfl (Nat.le_of_ble_eq_true rfl) dX3_coefficient_44 ⟨Nat.zero_le _, Nat.zero_le _⟩ hw) hS (fun H locs hw hS => ?_)
  refine lv_if_ne (tgt := 61) C.1 C.2.1 dX3_coefficient_47 (by decide) (fun c47 => ?_) (fun c47 => ?_)
  · have h := it_f c47 h
    cases h
    exact k_retv C hw hS dX3_coefficient_61
  · have h := it_t c47 h
    refine lv_aload_n C.1 C.2.1 dX3_coefficient_50 rfl (lv_at hl 0 rfl) ?_
    refine gf_X3_a C hw w_527 dX3_coefficient_51 ?_
    refine lv_iconst (v := 4) C.1 C.2.1 dX3_coefficient_54 (by decide) ?_
    refine lv_iload_n C.1 C.2.1 dX3_coefficient_55 rfl (lv_at hl 1 rfl) ?_
    refine lv_imul C.1 C.2.1 dX3_coefficient_56 ?_
    refine lv_iload_n C.1 C.2.1 dX3_coefficient_57 rfl (lv_at hl 2 rfl) ?_
    refine lv_iadd C.1 C.2.1 dX3_coefficient_58 ?_
    refine lv_iload_n C.1 C.2.1 dX3_coefficient_59 rfl (lv_at hl 3 rfl) ?_
    obtain ⟨M60, h60, h⟩ := bind_s h
    refine k_iast C hw hS 6 (by decide) h60 dX3_coefficient_60 (fun H locs hw hS => ?_)
    cases h
    exact k_retv C hw hS dX3_coefficient_61
def b_X3_coefficient_29 (N : Nat) (x1 : Int32) (x2 : Int32) (x3 : Int32) (M : Mm) : Option Mm :=
  b_X3_coefficient_34 N x1 x2 x3 1 M
set_option maxRecDepth 100000 in
set_option maxHeartbeats 4000000 in
theorem t_X3_coefficient_29 {θ : Th} {p : Program} {l : Launch} {e : Env} {s : State} {m : MethodId} {args : Array Value} {below : List Frame} {meth : Method} {c : Code} (C : Cx θ p s m args meth c cX3_coefficient 4 RX3 none) (N : Nat) : J_X3_coefficient_29 θ p l e s m args below meth c (b_X3_coefficient_29 N) := by
  intro x1 x2 x3 M M1 h H locs ls hl hw hS
  unfold b_X3_coefficient_29 at h
  refine lv_iconst (v := 1) C.1 C.2.1 dX3_coefficient_29 (by decide) ?_
  refine lv_goto (tgt := 34) C.1 C.2.1 dX3_coefficient_30 (by decide) ?_
  exact t_X3_coefficient_34 C N _ _ _ _ _ _ h _ _ ls (lv_sub hl [0, 1, 2, 3] rfl) hw hS
def b_X3_coefficient_0 (N : Nat) (x1 : Int32) (x2 : Int32) (x3 : Int32) (M : Mm) : Option Mm :=
  (f_X3_outside N x1 0 ((M.1 5) - 1) M).bind fun (r9, M9) => (if r9 = 0 then (f_X3_outside N x2 0 ((M9.1 4) - 1) M9).bind fun (r23, M23) => (if r23 = 0 then b_X3_coefficient_34 N x1 x2 x3 0 M23 else b_X3_coefficient_29 N x1 x2 x3 M23) else b_X3_coefficient_29 N x1 x2 x3 M9)
set_option maxRecDepth 100000 in
set_option maxHeartbeats 4000000 in
theorem t_X3_coefficient_0 {θ : Th} {p : Program} {l : Launch} {e : Env} {s : State} {m : MethodId} {args : Array Value} {below : List Frame} {meth : Method} {c : Code} (C : Cx θ p s m args meth c cX3_coefficient 4 RX3 none) (N : Nat) : J_X3_coefficient_0 θ p l e s m args below meth c (b_X3_coefficient_0 N) := by
  intro x1 x2 x3 M M1 h H locs ls hl hw hS
  unfold b_X3_coefficient_0 at h
  refine lv_aload_n C.1 C.2.1 dX3_coefficient_0 rfl (lv_at hl 0 rfl) ?_
  refine lv_iload_n C.1 C.2.1 dX3_coefficient_1 rfl (lv_at hl 1 rfl) ?_
  refine lv_iconst (v := 0) C.1 C.2.1 dX3_coefficient_2 (by decide) ?_
  refine lv_aload_n C.1 C.2.1 dX3_coefficient_3 rfl (lv_at hl 0 rfl) ?_
  refine gf_X3_m C hw w_526 dX3_coefficient_4 ?_
  refine lv_iconst (v := 1) C.1 C.2.1 dX3_coefficient_7 (by decide) ?_
  refine lv_isub C.1 C.2.1 dX3_coefficient_8 ?_
  obtain ⟨⟨r9, M9⟩, h9, h⟩ := bind_s h
  dsimp only at h
  refine k_ci (k_runS (As := [.int x1, .int 0, .int ((M.1 5) - 1)]) C cf_X3_outside cs_X3_outside w_594 (c_X3_outside θ l N h9) ⟨rfl, rfl, Nat.le_of_ble_eq_true rfl, Nat.le_of_ble_eq_true rfl⟩ rfl hl.1 rfl (Nat.le_of_ble_eq_true rfl) dX3_coefficient_9 ⟨Nat.zero_le _, Nat.zero_le _⟩ hw) hS (fun H locs hw hS => ?_)
  refine lv_if_ne (tgt := 29) C.1 C.2.1 dX3_coefficient_12 (by decide) (fun c12 => ?_) (fun c12 => ?_)
  · have h := it_f c12 h
    exact t_X3_coefficient_29 C N _ _ _ _ _ h _ _ ls (lv_sub hl [0, 1, 2, 3] rfl) hw hS
  · have h := it_t c12 h
    refine lv_iload_n C.1 C.2.1 dX3_coefficient_15 rfl (lv_at hl 2 rfl) ?_
    refine lv_iconst (v := 0) C.1 C.2.1 dX3_coefficient_16 (by decide) ?_
    refine lv_aload_n C.1 C.2.1 dX3_coefficient_17 rfl (lv_at hl 0 rfl) ?_
    refine gf_X3_n C hw w_525 dX3_coefficient_18 ?_
    refine lv_iconst (v := 1) C.1 C.2.1 dX3_coefficient_21 (by decide) ?_
    refine lv_isub C.1 C.2.1 dX3_coefficient_22 ?_
    obtain ⟨⟨r23, M23⟩, h23, h⟩ := bind_s h
    dsimp only at h
    refine k_ci (k_runS (As := [.int x2, .int 0, .int ((M9.1 4) - 1)]) C cf_X3_outside cs_X3_outside w_594 (c_X3_outside θ l N h23) ⟨rfl, rfl, Nat.le_of_ble_eq_true rfl, Nat.le_of_ble_eq_true rfl⟩ rfl hl.1 rfl (Nat.le_of_ble_eq_true rfl) dX3_coefficient_23 ⟨Nat.zero_le _, Nat.zero_le _⟩ hw) hS (fun H locs hw hS => ?_)
    refine lv_if_eq (tgt := 33) C.1 C.2.1 dX3_coefficient_26 (by decide) (fun c26 => ?_) (fun c26 => ?_)
    · have h := it_t c26 h
      refine lv_iconst (v := 0) C.1 C.2.1 dX3_coefficient_33 (by decide) ?_
      exact t_X3_coefficient_34 C N _ _ _ _ _ _ h _ _ ls (lv_sub hl [0, 1, 2, 3] rfl) hw hS
    · have h := it_f c26 h
      exact t_X3_coefficient_29 C N _ _ _ _ _ h _ _ ls (lv_sub hl [0, 1, 2, 3] rfl) hw hS
def f_X3_coefficient (N : Nat) (x1 : Int32) (x2 : Int32) (x3 : Int32) (M : Mm) : Option Mm := b_X3_coefficient_0 N x1 x2 x3 M
set_option maxRecDepth 100000 in
theorem c_X3_coefficient (θ : Th) (l : Launch) (N : Nat) {x1 : Int32} {x2 : Int32} {x3 : Int32} {M : Mm} {M1 : Mm} (h : f_X3_coefficient N x1 x2 x3 M = some M1) : Met l yX3_coefficient (gws yX3_coefficient cX3_coefficient 4 none) rm_X3_coefficient (va_Pc [.ref (tad θ 3), .int x1, .int x2, .int x3] (wU θ M)) (qV θ M1) 0 0 (tA θ) :=
  k_met (by decide +kernel) (Nat.le_of_ble_eq_true rfl) (fun p e s m args below meth c C ls hl hw => t_X3_coefficient_0 C N _ _ _ _ _ h _ _ ls (lv_sub hl [0, 1, 2, 3] rfl) hw va_S.rf)
abbrev rm_X3_row : Room := { frames := 1, cells := 0, slots := 0, locals := 24 }
def J_X3_row_37 (θ : Th) (p : Program) (l : Launch) (e : Env) (s : State) (m : MethodId) (args : Array Value) (below : List Frame) (meth : Method) (c : Code) (g : Int32 → Int32 → Int32 → Int32 → Int32 → Mm → Option Mm) : Prop := ∀ (x1 : Int32) (x2 : Int32) (x3 : Int32) (s0 : Int32) (s1 : Int32) (M : Mm) (M1 : Mm), g x1 x2 x3 s0 s1 M = some M1 → ∀ (H : Heap) (locs : List Loc) (ls : Array Slot), lv_has ls 4 [(0, .ref (tad θ 3)), (1, .int x1), (2, .int x2), (3, .int x3)] → wd θ M H → va_S (tA θ) s.heap H locs → W p l e rm_X3_row s m args below meth c H locs 0 0 (MQ below (qV θ M1) args s 0 0 (tA θ)) (F0 m 37 ls [.int s0, .int s1, .ref (tad θ 3)])
def J_X3_row_32 (θ : Th) (p : Program) (l : Launch) (e : Env) (s : State) (m : MethodId) (args : Array Value) (below : List Frame) (meth : Method) (c : Code) (g : Int32 → Int32 → Int32 → Int32 → Mm → Option Mm) : Prop := ∀ (x1 : Int32) (x2 : Int32) (x3 : Int32) (s0 : Int32) (M : Mm) (M1 : Mm), g x1 x2 x3 s0 M = some M1 → ∀ (H : Heap) (locs : List Loc) (ls : Array Slot), lv_has ls 4 [(0, .ref (tad θ 3)), (1, .int x1), (2, .int x2), (3, .int x3)] → wd θ M H → va_S (tA θ) s.heap H locs → W p l e rm_X3_row s m args below meth c H locs 0 0 (MQ below (qV θ M1) args s 0 0 (tA θ)) (F0 m 32 ls [.int s0, .ref (tad θ 3)])
def J_X3_row_0 (θ : Th) (p : Program) (l : Launch) (e : Env) (s : State) (m : MethodId) (args : Array Value) (below : List Frame) (meth : Method) (c : Code) (g : Int32 → Int32 → Int32 → Mm → Option Mm) : Prop := ∀ (x1 : Int32) (x2 : Int32) (x3 : Int32) (M : Mm) (M1 : Mm), g x1 x2 x3 M = some M1 → ∀ (H : Heap) (locs : List Loc) (ls : Array Slot), lv_has ls 4 [(0, .ref (tad θ 3)), (1, .int x1), (2, .int x2), (3, .int x3)] → wd θ M H → va_S (tA θ) s.heap H locs → W p l e rm_X3_row s m args below meth c H locs 0 0 (MQ below (qV θ M1) args s 0 0 (tA θ)) (F0 m 0 ls [])
def b_X3_row_37 (N : Nat) (x1 : Int32) (x2 : Int32) (x3 : Int32) (s0 : Int32) (s1 : Int32) (M : Mm) : Option Mm :=
  (f_X3_refuses N s1 s0 0 0 M).bind fun (r39, M39) => (if r39 = 0 then (wA M39 10 x1 x2).bind fun M52 => (wA M52 7 x1 x3).bind fun M59 => some M59 else some M39)
set_option maxRecDepth 100000 in
set_option maxHeartbeats 4000000 in
theorem t_X3_row_37 {θ : Th} {p : Program} {l : Launch} {e : Env} {s : State} {m : MethodId} {args : Array Value} {below : List Frame} {meth : Method} {c : Code} (C : Cx θ p s m args meth c cX3_row 4 RX3 none) (N : Nat) : J_X3_row_37 θ p l e s m args below meth c (b_X3_row_37 N) := by
  intro x1 x2 x3 s0 s1 M M1 h H locs ls hl hw hS
  unfold b_X3_row_37 at h
  refine lv_iconst (v := 0) C.1 C.2.1 dX3_row_37 (by decide) ?_
  refine lv_iconst (v := 0) C.1 C.2.1 dX3_row_38 (by decide) ?_
  obtain ⟨⟨r39, M39⟩, h39, h⟩ := bind_s h
  dsimp only at h
  refine k_ci (k_runV (As := [.int s1, .int s0, .int 0, .int 0]) C cf_X3_refuses cv_X3_refuses w_597 rc3 (c_X3_refuses θ l N h39) ⟨rfl, rfl, Nat.le_of_ble_eq_true rfl, Nat.le_of_ble_eq_true rfl⟩ rfl hl.1 rfl (Nat.le_of_ble_eq_true rfl) dX3_row_39 ⟨Nat.zero_le _, Nat.zero_le _⟩ hw) hS (fun H locs hw hS => ?_)
  refine lv_if_eq (tgt := 46) C.1 C.2.1 dX3_row_42 (by decide) (fun c42 => ?_) (fun c42 => ?_)
  · have h := it_t c42 h
    refine lv_aload_n C.1 C.2.1 dX3_row_46 rfl (lv_at hl 0 rfl) ?_
    refine gf_X3_senses C hw w_531 dX3_row_47 ?_
    refine lv_iload_n C.1 C.2.1 dX3_row_50 rfl (lv_at hl 1 rfl) ?_
    refine lv_iload_n C.1 C.2.1 dX3_row_51 rfl (lv_at hl 2 rfl) ?_
    obtain ⟨M52, h52, h⟩ := bind_s h
    refine k_iast C hw hS 10 (by decide) h52 dX3_row_52 (fun H locs hw hS => ?_)
    refine lv_aload_n C.1 C.2.1 dX3_row_53 rfl (lv_at hl 0 rfl) ?_
    refine gf_X3_b C hw w_528 dX3_row_54 ?_
    refine lv_iload_n C.1 C.2.1 dX3_row_57 rfl (lv_at hl 1 rfl) ?_
    refine lv_iload_n C.1 C.2.1 dX3_row_58 rfl (lv_at hl 3 rfl) ?_
    obtain ⟨M59, h59, h⟩ := bind_s h
    refine k_iast C hw hS 7 (by decide) h59 dX3_row_59 (fun H locs hw hS => ?_)
    cases h
    exact k_retv C hw hS dX3_row_60
  · have h := it_f c42 h
    cases h
    exact k_retv C hw hS dX3_row_45
def b_X3_row_32 (N : Nat) (x1 : Int32) (x2 : Int32) (x3 : Int32) (s0 : Int32) (M : Mm) : Option Mm :=
  b_X3_row_37 N x1 x2 x3 1 s0 M
set_option maxRecDepth 100000 in
set_option maxHeartbeats 4000000 in
theorem t_X3_row_32 {θ : Th} {p : Program} {l : Launch} {e : Env} {s : State} {m : MethodId} {args : Array Value} {below : List Frame} {meth : Method} {c : Code} (C : Cx θ p s m args meth c cX3_row 4 RX3 none) (N : Nat) : J_X3_row_32 θ p l e s m args below meth c (b_X3_row_32 N) := by
  intro x1 x2 x3 s0 M M1 h H locs ls hl hw hS
  unfold b_X3_row_32 at h
  refine lv_iconst (v := 1) C.1 C.2.1 dX3_row_32 (by decide) ?_
  refine lv_goto (tgt := 37) C.1 C.2.1 dX3_row_33 (by decide) ?_
  exact t_X3_row_37 C N _ _ _ _ _ _ _ h _ _ ls (lv_sub hl [0, 1, 2, 3] rfl) hw hS
def b_X3_row_0 (N : Nat) (x1 : Int32) (x2 : Int32) (x3 : Int32) (M : Mm) : Option Mm :=
  (f_X3_outside N x1 0 ((M.1 5) - 1) M).bind fun (r9, M9) => (f_X3_outside N x2 0 2 M9).bind fun (r15, M15) => (if r15 = 0 then (f_X3_outside N x3 (-50) 50 M15).bind fun (r26, M26) => (if r26 = 0 then b_X3_row_37 N x1 x2 x3 0 r9 M26 else b_X3_row_32 N x1 x2 x3 r9 M26) else b_X3_row_32 N x1 x2 x3 r9 M15)
set_option maxRecDepth 100000 in
set_option maxHeartbeats 4000000 in
theorem t_X3_row_0 {θ : Th} {p : Program} {l : Launch} {e : Env} {s : State} {m : MethodId} {args : Array Value} {below : List Frame} {meth : Method} {c : Code} (C : Cx θ p s m args meth c cX3_row 4 RX3 none) (N : Nat) : J_X3_row_0 θ p l e s m args below meth c (b_X3_row_0 N) := by
  intro x1 x2 x3 M M1 h H locs ls hl hw hS
  unfold b_X3_row_0 at h
  refine lv_aload_n C.1 C.2.1 dX3_row_0 rfl (lv_at hl 0 rfl) ?_
  refine lv_iload_n C.1 C.2.1 dX3_row_1 rfl (lv_at hl 1 rfl) ?_
  refine lv_iconst (v := 0) C.1 C.2.1 dX3_row_2 (by decide) ?_
  refine lv_aload_n C.1 C.2.1 dX3_row_3 rfl (lv_at hl 0 rfl) ?_
  refine gf_X3_m C hw w_526 dX3_row_4 ?_
  refine lv_iconst (v := 1) C.1 C.2.1 dX3_row_7 (by decide) ?_
  refine lv_isub C.1 C.2.1 dX3_row_8 ?_
  obtain ⟨⟨r9, M9⟩, h9, h⟩ := bind_s h
  dsimp only at h
  refine k_ci (k_runS (As := [.int x1, .int 0, .int ((M.1 5) - 1)]) C cf_X3_outside cs_X3_outside w_594 (c_X3_outside θ l N h9) ⟨rfl, rfl, Nat.le_of_ble_eq_true rfl, Nat.le_of_ble_eq_true rfl⟩ rfl hl.1 rfl (Nat.le_of_ble_eq_true rfl) dX3_row_9 ⟨Nat.zero_le _, Nat.zero_le _⟩ hw) hS (fun H locs hw hS => ?_)
  refine lv_iload_n C.1 C.2.1 dX3_row_12 rfl (lv_at hl 2 rfl) ?_
  refine lv_iconst (v := 0) C.1 C.2.1 dX3_row_13 (by decide) ?_
  refine lv_iconst (v := 2) C.1 C.2.1 dX3_row_14 (by decide) ?_
  obtain ⟨⟨r15, M15⟩, h15, h⟩ := bind_s h
  dsimp only at h
  refine k_ci (k_runS (As := [.int x2, .int 0, .int 2]) C cf_X3_outside cs_X3_outside w_594 (c_X3_outside θ l N h15) ⟨rfl, rfl, Nat.le_of_ble_eq_true rfl, Nat.le_of_ble_eq_true rfl⟩ rfl hl.1 rfl (Nat.le_of_ble_eq_true rfl) dX3_row_15 ⟨Nat.zero_le _, Nat.zero_le _⟩ hw) hS (fun H locs hw hS => ?_)
  refine lv_if_ne (tgt := 32) C.1 C.2.1 dX3_row_18 (by decide) (fun c18 => ?_) (fun c18 => ?_)
  · have h := it_f c18 h
    exact t_X3_row_32 C N _ _ _ _ _ _ h _ _ ls (lv_sub hl [0, 1, 2, 3] rfl) hw hS
  · have h := it_t c18 h
    refine lv_iload_n C.1 C.2.1 dX3_row_21 rfl (lv_at hl 3 rfl) ?_
    refine lv_bipush (v := (-50)) C.1 C.2.1 dX3_row_22 (by decide) ?_
    refine lv_bipush (v := 50) C.1 C.2.1 dX3_row_24 (by decide) ?_
    obtain ⟨⟨r26, M26⟩, h26, h⟩ := bind_s h
    dsimp only at h
    refine k_ci (k_runS (As := [.int x3, .int (-50), .int 50]) C cf_X3_outside cs_X3_outside w_594 (c_X3_outside θ l N h26) ⟨rfl, rfl, Nat.le_of_ble_eq_true rfl, Nat.le_of_ble_eq_true rfl⟩ rfl hl.1 rfl (Nat.le_of_ble_eq_true rfl) dX3_row_26 ⟨Nat.zero_le _, Nat.zero_le _⟩ hw) hS (fun H locs hw hS => ?_)
    refine lv_if_eq (tgt := 36) C.1 C.2.1 dX3_row_29 (by decide) (fun c29 => ?_) (fun c29 => ?_)
    · have h := it_t c29 h
      refine lv_iconst (v := 0) C.1 C.2.1 dX3_row_36 (by decide) ?_
      exact t_X3_row_37 C N _ _ _ _ _ _ _ h _ _ ls (lv_sub hl [0, 1, 2, 3] rfl) hw hS
    · have h := it_f c29 h
      exact t_X3_row_32 C N _ _ _ _ _ _ h _ _ ls (lv_sub hl [0, 1, 2, 3] rfl) hw hS
def f_X3_row (N : Nat) (x1 : Int32) (x2 : Int32) (x3 : Int32) (M : Mm) : Option Mm := b_X3_row_0 N x1 x2 x3 M
set_option maxRecDepth 100000 in
theorem c_X3_row (θ : Th) (l : Launch) (N : Nat) {x1 : Int32} {x2 : Int32} {x3 : Int32} {M : Mm} {M1 : Mm} (h : f_X3_row N x1 x2 x3 M = some M1) : Met l yX3_row (gws yX3_row cX3_row 4 none) rm_X3_row (va_Pc [.ref (tad θ 3), .int x1, .int x2, .int x3] (wU θ M)) (qV θ M1) 0 0 (tA θ) :=
  k_met (by decide +kernel) (Nat.le_of_ble_eq_true rfl) (fun p e s m args below meth c C ls hl hw => t_X3_row_0 C N _ _ _ _ _ h _ _ ls (lv_sub hl [0, 1, 2, 3] rfl) hw va_S.rf)
abbrev rm_X3_want : Room := { frames := 1, cells := 0, slots := 0, locals := 24 }
def J_X3_want_0 (θ : Th) (p : Program) (l : Launch) (e : Env) (s : State) (m : MethodId) (args : Array Value) (below : List Frame) (meth : Method) (c : Code) (g : Int32 → Int32 → Mm → Option Mm) : Prop := ∀ (x1 : Int32) (x2 : Int32) (M : Mm) (M1 : Mm), g x1 x2 M = some M1 → ∀ (H : Heap) (locs : List Loc) (ls : Array Slot), lv_has ls 3 [(0, .ref (tad θ 3)), (1, .int x1), (2, .int x2)] → wd θ M H → va_S (tA θ) s.heap H locs → W p l e rm_X3_want s m args below meth c H locs 0 0 (MQ below (qV θ M1) args s 0 0 (tA θ)) (F0 m 0 ls [])
def b_X3_want_0 (N : Nat) (x1 : Int32) (x2 : Int32) (M : Mm) : Option Mm :=
  (f_X3_outside N x1 0 ((M.1 4) - 1) M).bind fun (r9, M9) => (f_X3_outside N x2 (-9) 9 M9).bind fun (r17, M17) => (f_X3_refuses N r9 r17 0 0 M17).bind fun (r22, M22) => (if r22 = 0 then (wA M22 8 x1 x2).bind fun M34 => some M34 else some M22)
set_option maxRecDepth 100000 in
set_option maxHeartbeats 4000000 in
theorem t_X3_want_0 {θ : Th} {p : Program} {l : Launch} {e : Env} {s : State} {m : MethodId} {args : Array Value} {below : List Frame} {meth : Method} {c : Code} (C : Cx θ p s m args meth c cX3_want 3 RX3 none) (N : Nat) : J_X3_want_0 θ p l e s m args below meth c (b_X3_want_0 N) := by
  intro x1 x2 M M1 h H locs ls hl hw hS
  unfold b_X3_want_0 at h
  refine lv_aload_n C.1 C.2.1 dX3_want_0 rfl (lv_at hl 0 rfl) ?_
  refine lv_iload_n C.1 C.2.1 dX3_want_1 rfl (lv_at hl 1 rfl) ?_
  refine lv_iconst (v := 0) C.1 C.2.1 dX3_want_2 (by decide) ?_
  refine lv_aload_n C.1 C.2.1 dX3_want_3 rfl (lv_at hl 0 rfl) ?_
  refine gf_X3_n C hw w_525 dX3_want_4 ?_
  refine lv_iconst (v := 1) C.1 C.2.1 dX3_want_7 (by decide) ?_
  refine lv_isub C.1 C.2.1 dX3_want_8 ?_
  obtain ⟨⟨r9, M9⟩, h9, h⟩ := bind_s h
  dsimp only at h
  refine k_ci (k_runS (As := [.int x1, .int 0, .int ((M.1 4) - 1)]) C cf_X3_outside cs_X3_outside w_594 (c_X3_outside θ l N h9) ⟨rfl, rfl, Nat.le_of_ble_eq_true rfl, Nat.le_of_ble_eq_true rfl⟩ rfl hl.1 rfl (Nat.le_of_ble_eq_true rfl) dX3_want_9 ⟨Nat.zero_le _, Nat.zero_le _⟩ hw) hS (fun H locs hw hS => ?_)
  refine lv_iload_n C.1 C.2.1 dX3_want_12 rfl (lv_at hl 2 rfl) ?_
  refine lv_bipush (v := (-9)) C.1 C.2.1 dX3_want_13 (by decide) ?_
  refine lv_bipush (v := 9) C.1 C.2.1 dX3_want_15 (by decide) ?_
  obtain ⟨⟨r17, M17⟩, h17, h⟩ := bind_s h
  dsimp only at h
  refine k_ci (k_runS (As := [.int x2, .int (-9), .int 9]) C cf_X3_outside cs_X3_outside w_594 (c_X3_outside θ l N h17) ⟨rfl, rfl, Nat.le_of_ble_eq_true rfl, Nat.le_of_ble_eq_true rfl⟩ rfl hl.1 rfl (Nat.le_of_ble_eq_true rfl) dX3_want_17 ⟨Nat.zero_le _, Nat.zero_le _⟩ hw) hS (fun H locs hw hS => ?_)
  refine lv_iconst (v := 0) C.1 C.2.1 dX3_want_20 (by decide) ?_
  refine lv_iconst (v := 0) C.1 C.2.1 dX3_want_21 (by decide) ?_
  obtain ⟨⟨r22, M22⟩, h22, h⟩ := bind_s h
  dsimp only at h
  refine k_ci (k_runV (As := [.int r9, .int r17, .int 0, .int 0]) C cf_X3_refuses cv_X3_refuses w_597 rc3 (c_X3_refuses θ l N h22) ⟨rfl, rfl, Nat.le_of_ble_eq_true rfl, Nat.le_of_ble_eq_true rfl⟩ rfl hl.1 rfl (Nat.le_of_ble_eq_true rfl) dX3_want_22 ⟨Nat.zero_le _, Nat.zero_le _⟩ hw) hS (fun H locs hw hS => ?_)
  refine lv_if_ne (tgt := 35) C.1 C.2.1 dX3_want_25 (by decide) (fun c25 => ?_) (fun c25 => ?_)
  · have h := it_f c25 h
    cases h
    exact k_retv C hw hS dX3_want_35
  · have h := it_t c25 h
    refine lv_aload_n C.1 C.2.1 dX3_want_28 rfl (lv_at hl 0 rfl) ?_
    refine gf_X3_c C hw w_529 dX3_want_29 ?_
    refine lv_iload_n C.1 C.2.1 dX3_want_32 rfl (lv_at hl 1 rfl) ?_
    refine lv_iload_n C.1 C.2.1 dX3_want_33 rfl (lv_at hl 2 rfl) ?_
    obtain ⟨M34, h34, h⟩ := bind_s h
    refine k_iast C hw hS 8 (by decide) h34 dX3_want_34 (fun H locs hw hS => ?_)
    cases h
    exact k_retv C hw hS dX3_want_35
def f_X3_want (N : Nat) (x1 : Int32) (x2 : Int32) (M : Mm) : Option Mm := b_X3_want_0 N x1 x2 M
set_option maxRecDepth 100000 in
theorem c_X3_want (θ : Th) (l : Launch) (N : Nat) {x1 : Int32} {x2 : Int32} {M : Mm} {M1 : Mm} (h : f_X3_want N x1 x2 M = some M1) : Met l yX3_want (gws yX3_want cX3_want 3 none) rm_X3_want (va_Pc [.ref (tad θ 3), .int x1, .int x2] (wU θ M)) (qV θ M1) 0 0 (tA θ) :=
  k_met (by decide +kernel) (Nat.le_of_ble_eq_true rfl) (fun p e s m args below meth c C ls hl hw => t_X3_want_0 C N _ _ _ _ h _ _ ls (lv_sub hl [0, 1, 2] rfl) hw va_S.rf)
abbrev rm_X3_drift : Room := { frames := 1, cells := 0, slots := 0, locals := 24 }
def J_X3_drift_0 (θ : Th) (p : Program) (l : Launch) (e : Env) (s : State) (m : MethodId) (args : Array Value) (below : List Frame) (meth : Method) (c : Code) (g : Int32 → Int32 → Mm → Option Mm) : Prop := ∀ (x1 : Int32) (x2 : Int32) (M : Mm) (M1 : Mm), g x1 x2 M = some M1 → ∀ (H : Heap) (locs : List Loc) (ls : Array Slot), lv_has ls 3 [(0, .ref (tad θ 3)), (1, .int x1), (2, .int x2)] → wd θ M H → va_S (tA θ) s.heap H locs → W p l e rm_X3_drift s m args below meth c H locs 0 0 (MQ below (qV θ M1) args s 0 0 (tA θ)) (F0 m 0 ls [])
def b_X3_drift_0 (N : Nat) (x1 : Int32) (x2 : Int32) (M : Mm) : Option Mm :=
  (f_X3_outside N x1 0 ((M.1 5) - 1) M).bind fun (r9, M9) => (f_X3_outside N x2 (-9) 9 M9).bind fun (r17, M17) => (f_X3_refuses N r9 r17 0 0 M17).bind fun (r22, M22) => (if r22 = 0 then (wA M22 9 x1 x2).bind fun M34 => some M34 else some M22)
set_option maxRecDepth 100000 in
set_option maxHeartbeats 4000000 in
theorem t_X3_drift_0 {θ : Th} {p : Program} {l : Launch} {e : Env} {s : State} {m : MethodId} {args : Array Value} {below : List Frame} {meth : Method} {c : Code} (C : Cx θ p s m args meth c cX3_drift 3 RX3 none) (N : Nat) : J_X3_drift_0 θ p l e s m args below meth c (b_X3_drift_0 N) := by
  intro x1 x2 M M1 h H locs ls hl hw hS
  unfold b_X3_drift_0 at h
  refine lv_aload_n C.1 C.2.1 dX3_drift_0 rfl (lv_at hl 0 rfl) ?_
  refine lv_iload_n C.1 C.2.1 dX3_drift_1 rfl (lv_at hl 1 rfl) ?_
  refine lv_iconst (v := 0) C.1 C.2.1 dX3_drift_2 (by decide) ?_
  refine lv_aload_n C.1 C.2.1 dX3_drift_3 rfl (lv_at hl 0 rfl) ?_
  refine gf_X3_m C hw w_526 dX3_drift_4 ?_
  refine lv_iconst (v := 1) C.1 C.2.1 dX3_drift_7 (by decide) ?_
  refine lv_isub C.1 C.2.1 dX3_drift_8 ?_
  obtain ⟨⟨r9, M9⟩, h9, h⟩ := bind_s h
  dsimp only at h
  refine k_ci (k_runS (As := [.int x1, .int 0, .int ((M.1 5) - 1)]) C cf_X3_outside cs_X3_outside w_594 (c_X3_outside θ l N h9) ⟨rfl, rfl, Nat.le_of_ble_eq_true rfl, Nat.le_of_ble_eq_true rfl⟩ rfl hl.1 rfl (Nat.le_of_ble_eq_true rfl) dX3_drift_9 ⟨Nat.zero_le _, Nat.zero_le _⟩ hw) hS (fun H locs hw hS => ?_)
  refine lv_iload_n C.1 C.2.1 dX3_drift_12 rfl (lv_at hl 2 rfl) ?_
  refine lv_bipush (v := (-9)) C.1 C.2.1 dX3_drift_13 (by decide) ?_
  refine lv_bipush (v := 9) C.1 C.2.1 dX3_drift_15 (by decide) ?_
  obtain ⟨⟨r17, M17⟩, h17, h⟩ := bind_s h
  dsimp only at h
  refine k_ci (k_runS (As := [.int x2, .int (-9), .int 9]) C cf_X3_outside cs_X3_outside w_594 (c_X3_outside θ l N h17) ⟨rfl, rfl, Nat.le_of_ble_eq_true rfl, Nat.le_of_ble_eq_true rfl⟩ rfl hl.1 rfl (Nat.le_of_ble_eq_true rfl) dX3_drift_17 ⟨Nat.zero_le _, Nat.zero_le _⟩ hw) hS (fun H locs hw hS => ?_)
  refine lv_iconst (v := 0) C.1 C.2.1 dX3_drift_20 (by decide) ?_
  refine lv_iconst (v := 0) C.1 C.2.1 dX3_drift_21 (by decide) ?_
  obtain ⟨⟨r22, M22⟩, h22, h⟩ := bind_s h
  dsimp only at h
  refine k_ci (k_runV (As := [.int r9, .int r17, .int 0, .int 0]) C cf_X3_refuses cv_X3_refuses w_597 rc3 (c_X3_refuses θ l N h22) ⟨rfl, rfl, Nat.le_of_ble_eq_true rfl, Nat.le_of_ble_eq_true rfl⟩ rfl hl.1 rfl (Nat.le_of_ble_eq_true rfl) dX3_drift_22 ⟨Nat.zero_le _, Nat.zero_le _⟩ hw) hS (fun H locs hw hS => ?_)
  refine lv_if_ne (tgt := 35) C.1 C.2.1 dX3_drift_25 (by decide) (fun c25 => ?_) (fun c25 => ?_)
  · have h := it_f c25 h
    cases h
    exact k_retv C hw hS dX3_drift_35
  · have h := it_t c25 h
    refine lv_aload_n C.1 C.2.1 dX3_drift_28 rfl (lv_at hl 0 rfl) ?_
    refine gf_X3_e C hw w_530 dX3_drift_29 ?_
    refine lv_iload_n C.1 C.2.1 dX3_drift_32 rfl (lv_at hl 1 rfl) ?_
    refine lv_iload_n C.1 C.2.1 dX3_drift_33 rfl (lv_at hl 2 rfl) ?_
    obtain ⟨M34, h34, h⟩ := bind_s h
    refine k_iast C hw hS 9 (by decide) h34 dX3_drift_34 (fun H locs hw hS => ?_)
    cases h
    exact k_retv C hw hS dX3_drift_35
def f_X3_drift (N : Nat) (x1 : Int32) (x2 : Int32) (M : Mm) : Option Mm := b_X3_drift_0 N x1 x2 M
set_option maxRecDepth 100000 in
theorem c_X3_drift (θ : Th) (l : Launch) (N : Nat) {x1 : Int32} {x2 : Int32} {M : Mm} {M1 : Mm} (h : f_X3_drift N x1 x2 M = some M1) : Met l yX3_drift (gws yX3_drift cX3_drift 3 none) rm_X3_drift (va_Pc [.ref (tad θ 3), .int x1, .int x2] (wU θ M)) (qV θ M1) 0 0 (tA θ) :=
  k_met (by decide +kernel) (Nat.le_of_ble_eq_true rfl) (fun p e s m args below meth c C ls hl hw => t_X3_drift_0 C N _ _ _ _ h _ _ ls (lv_sub hl [0, 1, 2] rfl) hw va_S.rf)
abbrev rm_X3_add : Room := { frames := 0, cells := 0, slots := 0, locals := 0 }
def J_X3_add_2 (θ : Th) (p : Program) (l : Launch) (e : Env) (s : State) (m : MethodId) (args : Array Value) (below : List Frame) (meth : Method) (c : Code) (g : Int32 → Int32 → Int32 → Mm → Option Mm) : Prop := ∀ (x1 : Int32) (x2 : Int32) (x3 : Int32) (M : Mm) (M1 : Mm), g x1 x2 x3 M = some M1 → ∀ (H : Heap) (locs : List Loc) (ls : Array Slot), lv_has ls 4 [(0, .ref (tad θ 3)), (1, .int x1), (2, .int x2), (3, .int x3)] → wd θ M H → va_S (tA θ) s.heap H locs → W p l e rm_X3_add s m args below meth c H locs 0 0 (MQ below (qV θ M1) args s 0 0 (tA θ)) (F0 m 2 ls [])
def J_X3_add_0 (θ : Th) (p : Program) (l : Launch) (e : Env) (s : State) (m : MethodId) (args : Array Value) (below : List Frame) (meth : Method) (c : Code) (g : Int32 → Int32 → Mm → Option Mm) : Prop := ∀ (x1 : Int32) (x2 : Int32) (M : Mm) (M1 : Mm), g x1 x2 M = some M1 → ∀ (H : Heap) (locs : List Loc) (ls : Array Slot), lv_has ls 4 [(0, .ref (tad θ 3)), (1, .int x1), (2, .int x2)] → wd θ M H → va_S (tA θ) s.heap H locs → W p l e rm_X3_add s m args below meth c H locs 0 0 (MQ below (qV θ M1) args s 0 0 (tA θ)) (F0 m 0 ls [])
def F_X3_add_2 (N : Nat) (k2 : Int32 → Int32 → Int32 → Mm → Option Mm) (x1 : Int32) (x2 : Int32) (x3 : Int32) (M : Mm) : Option Mm :=
  (if 5 ≤ x3 then (wA M 12 (M.1 8) x1).bind fun M36 => (wA M36 13 (M36.1 8) x2).bind fun M46 => some (wI M46 8 ((M46.1 8) + 1)) else (wA M 11 ((5 * (M.1 8)) + x3) 0).bind fun M20 => k2 x1 x2 (x3 + 1) M20)
abbrev b_X3_add_2 (N : Nat) : Int32 → Int32 → Int32 → Mm → Option Mm := lpT (fun _ _ _ _ => none) (F_X3_add_2 N) N
set_option maxRecDepth 100000 in
set_option maxHeartbeats 4000000 in
theorem tF_X3_add_2 {θ : Th} {p : Program} {l : Launch} {e : Env} {s : State} {m : MethodId} {args : Array Value} {below : List Frame} {meth : Method} {c : Code} (C : Cx θ p s m args meth c cX3_add 4 RX3 none) (N : Nat) {k2 : Int32 → Int32 → Int32 → Mm → Option Mm} (hk2 : J_X3_add_2 θ p l e s m args below meth c k2) : J_X3_add_2 θ p l e s m args below meth c (F_X3_add_2 N k2) := by
  intro x1 x2 x3 M M1 h H locs ls hl hw hS
  unfold F_X3_add_2 at h
  refine lv_iload_n C.1 C.2.1 dX3_add_2 rfl (lv_at hl 3 rfl) ?_
  refine lv_iconst (v := 5) C.1 C.2.1 dX3_add_3 (by decide) ?_
  refine lv_icmp_ge (tgt := 27) C.1 C.2.1 dX3_add_4 (by decide) (fun c4 => ?_) (fun c4 => ?_)
  · have h := it_t c4 h
    refine lv_aload_n C.1 C.2.1 dX3_add_27 rfl (lv_at hl 0 rfl) ?_
    refine gf_X3_boundSense C hw w_536 dX3_add_28 ?_
    refine lv_aload_n C.1 C.2.1 dX3_add_31 rfl (lv_at hl 0 rfl) ?_
    refine gf_X3_bounds C hw w_534 dX3_add_32 ?_
    refine lv_iload_n C.1 C.2.1 dX3_add_35 rfl (lv_at hl 1 rfl) ?_
    obtain ⟨M36, h36, h⟩ := bind_s h
    refine k_iast C hw hS 12 (by decide) h36 dX3_add_36 (fun H locs hw hS => ?_)
    refine lv_aload_n C.1 C.2.1 dX3_add_37 rfl (lv_at hl 0 rfl) ?_
    refine gf_X3_boundRight C hw w_537 dX3_add_38 ?_
    refine lv_aload_n C.1 C.2.1 dX3_add_41 rfl (lv_at hl 0 rfl) ?_
    refine gf_X3_bounds C hw w_534 dX3_add_42 ?_
    refine lv_iload_n C.1 C.2.1 dX3_add_45 rfl (lv_at hl 2 rfl) ?_
    obtain ⟨M46, h46, h⟩ := bind_s h
    refine k_iast C hw hS 13 (by decide) h46 dX3_add_46 (fun H locs hw hS => ?_)
    refine lv_aload_n C.1 C.2.1 dX3_add_47 rfl (lv_at hl 0 rfl) ?_
    refine lv_dup C.1 C.2.1 dX3_add_48 rfl ?_
    refine gf_X3_bounds C hw w_534 dX3_add_49 ?_
    refine lv_iconst (v := 1) C.1 C.2.1 dX3_add_52 (by decide) ?_
    refine lv_iadd C.1 C.2.1 dX3_add_53 ?_
    refine pf_X3_bounds C hw hS w_534 dX3_add_54 (fun H locs hw hS => ?_)
    cases h
    exact k_retv C hw hS dX3_add_57
  · have h := it_f c4 h
    refine lv_aload_n C.1 C.2.1 dX3_add_7 rfl (lv_at hl 0 rfl) ?_
    refine gf_X3_bound C hw w_535 dX3_add_8 ?_
    refine lv_iconst (v := 5) C.1 C.2.1 dX3_add_11 (by decide) ?_
    refine lv_aload_n C.1 C.2.1 dX3_add_12 rfl (lv_at hl 0 rfl) ?_
    refine gf_X3_bounds C hw w_534 dX3_add_13 ?_
    refine lv_imul C.1 C.2.1 dX3_add_16 ?_
    refine lv_iload_n C.1 C.2.1 dX3_add_17 rfl (lv_at hl 3 rfl) ?_
    refine lv_iadd C.1 C.2.1 dX3_add_18 ?_
    refine lv_iconst (v := 0) C.1 C.2.1 dX3_add_19 (by decide) ?_
    obtain ⟨M20, h20, h⟩ := bind_s h
    refine k_iast C hw hS 11 (by decide) h20 dX3_add_20 (fun H locs hw hS => ?_)
    refine lv_iinc (v := (x3 + 1)) (lv' := [(3, .int (x3 + 1)), (0, .ref (tad θ 3)), (1, .int x1), (2, .int x2)]) C.1 C.2.1 dX3_add_21 hl (k := 3) rfl rfl (by decide) rfl (fun ls hl => ?_)
    refine lv_goto (tgt := 2) C.1 C.2.1 dX3_add_24 (by decide) ?_
    exact hk2 _ _ _ _ _ h _ _ ls (lv_sub hl [1, 2, 3, 0] rfl) hw hS
theorem t_X3_add_2 {θ : Th} {p : Program} {l : Launch} {e : Env} {s : State} {m : MethodId} {args : Array Value} {below : List Frame} {meth : Method} {c : Code} (C : Cx θ p s m args meth c cX3_add 4 RX3 none) (N : Nat) : J_X3_add_2 θ p l e s m args below meth c (b_X3_add_2 N) := lpT_ind (J := J_X3_add_2 θ p l e s m args below meth c) (fun _ _ _ _ _ h => by cases h) (fun k hk => tF_X3_add_2 C N hk) N
def b_X3_add_0 (N : Nat) (x1 : Int32) (x2 : Int32) (M : Mm) : Option Mm :=
  b_X3_add_2 N x1 x2 0 M
set_option maxRecDepth 100000 in
set_option maxHeartbeats 4000000 in
theorem t_X3_add_0 {θ : Th} {p : Program} {l : Launch} {e : Env} {s : State} {m : MethodId} {args : Array Value} {below : List Frame} {meth : Method} {c : Code} (C : Cx θ p s m args meth c cX3_add 4 RX3 none) (N : Nat) : J_X3_add_0 θ p l e s m args below meth c (b_X3_add_0 N) := by
  intro x1 x2 M M1 h H locs ls hl hw hS
  unfold b_X3_add_0 at h
  refine lv_iconst (v := 0) C.1 C.2.1 dX3_add_0 (by decide) ?_
  refine lv_istore_n (lv' := [(3, .int 0), (0, .ref (tad θ 3)), (1, .int x1), (2, .int x2)]) C.1 C.2.1 dX3_add_1 rfl hl (by decide) rfl (fun ls hl => ?_)
  exact t_X3_add_2 C N _ _ _ _ _ h _ _ ls (lv_sub hl [1, 2, 3, 0] rfl) hw hS
def f_X3_add (N : Nat) (x1 : Int32) (x2 : Int32) (M : Mm) : Option Mm := b_X3_add_0 N x1 x2 M
set_option maxRecDepth 100000 in
theorem c_X3_add (θ : Th) (l : Launch) (N : Nat) {x1 : Int32} {x2 : Int32} {M : Mm} {M1 : Mm} (h : f_X3_add N x1 x2 M = some M1) : Met l yX3_add (gws yX3_add cX3_add 4 none) rm_X3_add (va_Pc [.ref (tad θ 3), .int x1, .int x2] (wU θ M)) (qV θ M1) 0 0 (tA θ) :=
  k_met (by decide +kernel) (Nat.le_of_ble_eq_true rfl) (fun p e s m args below meth c C ls hl hw => t_X3_add_0 C N _ _ _ _ h _ _ ls (lv_sub hl [0, 1, 2] rfl) hw va_S.rf)
abbrev rm_X3_setUp : Room := { frames := 1, cells := 0, slots := 0, locals := 23 }
def J_X3_setUp_74 (θ : Th) (p : Program) (l : Launch) (e : Env) (s : State) (m : MethodId) (args : Array Value) (below : List Frame) (meth : Method) (c : Code) (g : Int32 → Int32 → Int32 → Int32 → Mm → Option Mm) : Prop := ∀ (x1 : Int32) (x2 : Int32) (x3 : Int32) (x4 : Int32) (M : Mm) (M1 : Mm), g x1 x2 x3 x4 M = some M1 → ∀ (H : Heap) (locs : List Loc) (ls : Array Slot), lv_has ls 5 [(0, .ref (tad θ 3)), (1, .int x1), (2, .int x2), (3, .int x3), (4, .int x4)] → wd θ M H → va_S (tA θ) s.heap H locs → W p l e rm_X3_setUp s m args below meth c H locs 0 0 (MQ below (qV θ M1) args s 0 0 (tA θ)) (F0 m 74 ls [])
def J_X3_setUp_237 (θ : Th) (p : Program) (l : Launch) (e : Env) (s : State) (m : MethodId) (args : Array Value) (below : List Frame) (meth : Method) (c : Code) (g : Int32 → Mm → Option Mm) : Prop := ∀ (x3 : Int32) (M : Mm) (M1 : Mm), g x3 M = some M1 → ∀ (H : Heap) (locs : List Loc) (ls : Array Slot), lv_has ls 5 [(0, .ref (tad θ 3)), (3, .int x3)] → wd θ M H → va_S (tA θ) s.heap H locs → W p l e rm_X3_setUp s m args below meth c H locs 0 0 (MQ below (qV θ M1) args s 0 0 (tA θ)) (F0 m 237 ls [])
def J_X3_setUp_224 (θ : Th) (p : Program) (l : Launch) (e : Env) (s : State) (m : MethodId) (args : Array Value) (below : List Frame) (meth : Method) (c : Code) (g : Int32 → Mm → Option Mm) : Prop := ∀ (x2 : Int32) (M : Mm) (M1 : Mm), g x2 M = some M1 → ∀ (H : Heap) (locs : List Loc) (ls : Array Slot), lv_has ls 5 [(0, .ref (tad θ 3)), (2, .int x2)] → wd θ M H → va_S (tA θ) s.heap H locs → W p l e rm_X3_setUp s m args below meth c H locs 0 0 (MQ below (qV θ M1) args s 0 0 (tA θ)) (F0 m 224 ls [])
def J_X3_setUp_158 (θ : Th) (p : Program) (l : Launch) (e : Env) (s : State) (m : MethodId) (args : Array Value) (below : List Frame) (meth : Method) (c : Code) (g : Int32 → Int32 → Mm → Option Mm) : Prop := ∀ (x2 : Int32) (x3 : Int32) (M : Mm) (M1 : Mm), g x2 x3 M = some M1 → ∀ (H : Heap) (locs : List Loc) (ls : Array Slot), lv_has ls 5 [(0, .ref (tad θ 3)), (2, .int x2), (3, .int x3)] → wd θ M H → va_S (tA θ) s.heap H locs → W p l e rm_X3_setUp s m args below meth c H locs 0 0 (MQ below (qV θ M1) args s 0 0 (tA θ)) (F0 m 158 ls [])
def J_X3_setUp_29 (θ : Th) (p : Program) (l : Launch) (e : Env) (s : State) (m : MethodId) (args : Array Value) (below : List Frame) (meth : Method) (c : Code) (g : Int32 → Int32 → Int32 → Mm → Option Mm) : Prop := ∀ (x1 : Int32) (x2 : Int32) (x3 : Int32) (M : Mm) (M1 : Mm), g x1 x2 x3 M = some M1 → ∀ (H : Heap) (locs : List Loc) (ls : Array Slot), lv_has ls 5 [(0, .ref (tad θ 3)), (1, .int x1), (2, .int x2), (3, .int x3)] → wd θ M H → va_S (tA θ) s.heap H locs → W p l e rm_X3_setUp s m args below meth c H locs 0 0 (MQ below (qV θ M1) args s 0 0 (tA θ)) (F0 m 29 ls [])
def J_X3_setUp_19 (θ : Th) (p : Program) (l : Launch) (e : Env) (s : State) (m : MethodId) (args : Array Value) (below : List Frame) (meth : Method) (c : Code) (g : Int32 → Int32 → Int32 → Mm → Option Mm) : Prop := ∀ (x1 : Int32) (x2 : Int32) (s0 : Int32) (M : Mm) (M1 : Mm), g x1 x2 s0 M = some M1 → ∀ (H : Heap) (locs : List Loc) (ls : Array Slot), lv_has ls 5 [(0, .ref (tad θ 3)), (1, .int x1), (2, .int x2)] → wd θ M H → va_S (tA θ) s.heap H locs → W p l e rm_X3_setUp s m args below meth c H locs 0 0 (MQ below (qV θ M1) args s 0 0 (tA θ)) (F0 m 19 ls [.int s0, .ref (tad θ 3)])
def J_X3_setUp_0 (θ : Th) (p : Program) (l : Launch) (e : Env) (s : State) (m : MethodId) (args : Array Value) (below : List Frame) (meth : Method) (c : Code) (g : Int32 → Int32 → Mm → Option Mm) : Prop := ∀ (x1 : Int32) (x2 : Int32) (M : Mm) (M1 : Mm), g x1 x2 M = some M1 → ∀ (H : Heap) (locs : List Loc) (ls : Array Slot), lv_has ls 5 [(0, .ref (tad θ 3)), (1, .int x1), (2, .int x2)] → wd θ M H → va_S (tA θ) s.heap H locs → W p l e rm_X3_setUp s m args below meth c H locs 0 0 (MQ below (qV θ M1) args s 0 0 (tA θ)) (F0 m 0 ls [])
def F_X3_setUp_74 (N : Nat) (k29 : Int32 → Int32 → Int32 → Mm → Option Mm) (k74 : Int32 → Int32 → Int32 → Int32 → Mm → Option Mm) (x1 : Int32) (x2 : Int32) (x3 : Int32) (x4 : Int32) (M : Mm) : Option Mm :=
  (if (M.1 4) ≤ x4 then (if x2 = 2 then (rA M 9 x3).bind fun v143 => (wA M 11 (((5 * (M.1 8)) - 5) + (M.1 4)) (-v143)).bind fun M149 => k29 x1 x2 (x3 + 1) M149 else (wA M 11 (((5 * (M.1 8)) - 5) + (M.1 4)) 0).bind fun M149 => k29 x1 x2 (x3 + 1) M149) else (rA M 6 ((4 * x3) + x4)).bind fun v108 => (wA M 11 (((5 * (M.1 8)) - 5) + x4) v108).bind fun M109 => k74 x1 x2 x3 (x4 + 1) M109)
abbrev b_X3_setUp_74 (N : Nat) (k29 : Int32 → Int32 → Int32 → Mm → Option Mm) : Int32 → Int32 → Int32 → Int32 → Mm → Option Mm := lpT (fun _ _ _ _ _ => none) (F_X3_setUp_74 N k29) N
set_option maxRecDepth 100000 in
set_option maxHeartbeats 4000000 in
theorem tF_X3_setUp_74 {θ : Th} {p : Program} {l : Launch} {e : Env} {s : State} {m : MethodId} {args : Array Value} {below : List Frame} {meth : Method} {c : Code} (C : Cx θ p s m args meth c cX3_setUp 5 RX3 none) (N : Nat) {k29 : Int32 → Int32 → Int32 → Mm → Option Mm} (hk29 : J_X3_setUp_29 θ p l e s m args below meth c k29) {k74 : Int32 → Int32 → Int32 → Int32 → Mm → Option Mm} (hk74 : J_X3_setUp_74 θ p l e s m args below meth c k74) : J_X3_setUp_74 θ p l e s m args below meth c (F_X3_setUp_74 N k29 k74) := by
  intro x1 x2 x3 x4 M M1 h H locs ls hl hw hS
  unfold F_X3_setUp_74 at h
  refine lv_iload C.1 C.2.1 dX3_setUp_74 (lv_at hl 4 rfl) ?_
  refine lv_aload_n C.1 C.2.1 dX3_setUp_76 rfl (lv_at hl 0 rfl) ?_
  refine gf_X3_n C hw w_525 dX3_setUp_77 ?_
  refine lv_icmp_ge (tgt := 116) C.1 C.2.1 dX3_setUp_80 (by decide) (fun c80 => ?_) (fun c80 => ?_)
  · have h := it_t c80 h
    refine lv_aload_n C.1 C.2.1 dX3_setUp_116 rfl (lv_at hl 0 rfl) ?_
    refine gf_X3_bound C hw w_535 dX3_setUp_117 ?_
    refine lv_iconst (v := 5) C.1 C.2.1 dX3_setUp_120 (by decide) ?_
    refine lv_aload_n C.1 C.2.1 dX3_setUp_121 rfl (lv_at hl 0 rfl) ?_
    refine gf_X3_bounds C hw w_534 dX3_setUp_122 ?_
    refine lv_imul C.1 C.2.1 dX3_setUp_125 ?_
    refine lv_iconst (v := 5) C.1 C.2.1 dX3_setUp_126 (by decide) ?_
    refine lv_isub C.1 C.2.1 dX3_setUp_127 ?_
    refine lv_aload_n C.1 C.2.1 dX3_setUp_128 rfl (lv_at hl 0 rfl) ?_
    refine gf_X3_n C hw w_525 dX3_setUp_129 ?_
    refine lv_iadd C.1 C.2.1 dX3_setUp_132 ?_
    refine lv_iload_n C.1 C.2.1 dX3_setUp_133 rfl (lv_at hl 2 rfl) ?_
    refine lv_iconst (v := 2) C.1 C.2.1 dX3_setUp_134 (by decide) ?_
    refine lv_icmp_ne (tgt := 148) C.1 C.2.1 dX3_setUp_135 (by decide) (fun c135 => ?_) (fun c135 => ?_)
    · have h := it_f c135 h
      refine lv_iconst (v := 0) C.1 C.2.1 dX3_setUp_148 (by decide) ?_
      obtain ⟨M149, h149, h⟩ := bind_s h
      refine k_iast C hw hS 11 (by decide) h149 dX3_setUp_149 (fun H locs hw hS => ?_)
      refine lv_iinc (v := (x3 + 1)) (lv' := [(3, .int (x3 + 1)), (0, .ref (tad θ 3)), (1, .int x1), (2, .int x2), (4, .int x4)]) C.1 C.2.1 dX3_setUp_150 hl (k := 3) rfl rfl (by decide) rfl (fun ls hl => ?_)
      refine lv_goto (tgt := 29) C.1 C.2.1 dX3_setUp_153 (by decide) ?_
      exact hk29 _ _ _ _ _ h _ _ ls (lv_sub hl [1, 2, 3, 0] rfl) hw hS
    · have h := it_t c135 h
      refine lv_aload_n C.1 C.2.1 dX3_setUp_138 rfl (lv_at hl 0 rfl) ?_
      refine gf_X3_e C hw w_530 dX3_setUp_139 ?_
      refine lv_iload_n C.1 C.2.1 dX3_setUp_142 rfl (lv_at hl 3 rfl) ?_
      obtain ⟨v143, h143, h⟩ := bind_s h
      refine k_iald C hw 9 (by decide) h143 dX3_setUp_143 ?_
      refine lv_ineg C.1 C.2.1 dX3_setUp_144 ?_
      refine lv_goto (tgt := 149) C.1 C.2.1 dX3_setUp_145 (by decide) ?_
      obtain ⟨M149, h149, h⟩ := bind_s h
      refine k_iast C hw hS 11 (by decide) h149 dX3_setUp_149 (fun H locs hw hS => ?_)
      refine lv_iinc (v := (x3 + 1)) (lv' := [(3, .int (x3 + 1)), (0, .ref (tad θ 3)), (1, .int x1), (2, .int x2), (4, .int x4)]) C.1 C.2.1 dX3_setUp_150 hl (k := 3) rfl rfl (by decide) rfl (fun ls hl => ?_)
      refine lv_goto (tgt := 29) C.1 C.2.1 dX3_setUp_153 (by decide) ?_
      exact hk29 _ _ _ _ _ h _ _ ls (lv_sub hl [1, 2, 3, 0] rfl) hw hS
  · have h := it_f c80 h
    refine lv_aload_n C.1 C.2.1 dX3_setUp_83 rfl (lv_at hl 0 rfl) ?_
    refine gf_X3_bound C hw w_535 dX3_setUp_84 ?_
    refine lv_iconst (v := 5) C.1 C.2.1 dX3_setUp_87 (by decide) ?_
    refine lv_aload_n C.1 C.2.1 dX3_setUp_88 rfl (lv_at hl 0 rfl) ?_
    refine gf_X3_bounds C hw w_534 dX3_setUp_89 ?_
    refine lv_imul C.1 C.2.1 dX3_setUp_92 ?_
    refine lv_iconst (v := 5) C.1 C.2.1 dX3_setUp_93 (by decide) ?_
    refine lv_isub C.1 C.2.1 dX3_setUp_94 ?_
    refine lv_iload C.1 C.2.1 dX3_setUp_95 (lv_at hl 4 rfl) ?_
    refine lv_iadd C.1 C.2.1 dX3_setUp_97 ?_
    refine lv_aload_n C.1 C.2.1 dX3_setUp_98 rfl (lv_at hl 0 rfl) ?_
    refine gf_X3_a C hw w_527 dX3_setUp_99 ?_
    refine lv_iconst (v := 4) C.1 C.2.1 dX3_setUp_102 (by decide) ?_
    refine lv_iload_n C.1 C.2.1 dX3_setUp_103 rfl (lv_at hl 3 rfl) ?_
    refine lv_imul C.1 C.2.1 dX3_setUp_104 ?_
    refine lv_iload C.1 C.2.1 dX3_setUp_105 (lv_at hl 4 rfl) ?_
    refine lv_iadd C.1 C.2.1 dX3_setUp_107 ?_
    obtain ⟨v108, h108, h⟩ := bind_s h
    refine k_iald C hw 6 (by decide) h108 dX3_setUp_108 ?_
    obtain ⟨M109, h109, h⟩ := bind_s h
    refine k_iast C hw hS 11 (by decide) h109 dX3_setUp_109 (fun H locs hw hS => ?_)
    refine lv_iinc (v := (x4 + 1)) (lv' := [(4, .int (x4 + 1)), (0, .ref (tad θ 3)), (1, .int x1), (2, .int x2), (3, .int x3)]) C.1 C.2.1 dX3_setUp_110 hl (k := 4) rfl rfl (by decide) rfl (fun ls hl => ?_)
    refine lv_goto (tgt := 74) C.1 C.2.1 dX3_setUp_113 (by decide) ?_
    exact hk74 _ _ _ _ _ _ h _ _ ls (lv_sub hl [1, 2, 3, 4, 0] rfl) hw hS
theorem t_X3_setUp_74 {θ : Th} {p : Program} {l : Launch} {e : Env} {s : State} {m : MethodId} {args : Array Value} {below : List Frame} {meth : Method} {c : Code} (C : Cx θ p s m args meth c cX3_setUp 5 RX3 none) (N : Nat) {k29 : Int32 → Int32 → Int32 → Mm → Option Mm} (hk29 : J_X3_setUp_29 θ p l e s m args below meth c k29) : J_X3_setUp_74 θ p l e s m args below meth c (b_X3_setUp_74 N k29) := lpT_ind (J := J_X3_setUp_74 θ p l e s m args below meth c) (fun _ _ _ _ _ _ h => by cases h) (fun k hk => tF_X3_setUp_74 C N hk29 hk) N
def F_X3_setUp_237 (N : Nat) (k237 : Int32 → Mm → Option Mm) (x3 : Int32) (M : Mm) : Option Mm :=
  (if (M.1 4) ≤ x3 then some M else (wA M 11 (((5 * (M.1 8)) - 5) + x3) 1).bind fun M260 => k237 (x3 + 1) M260)
abbrev b_X3_setUp_237 (N : Nat) : Int32 → Mm → Option Mm := lpT (fun _ _ => none) (F_X3_setUp_237 N) N
set_option maxRecDepth 100000 in
set_option maxHeartbeats 4000000 in
theorem tF_X3_setUp_237 {θ : Th} {p : Program} {l : Launch} {e : Env} {s : State} {m : MethodId} {args : Array Value} {below : List Frame} {meth : Method} {c : Code} (C : Cx θ p s m args meth c cX3_setUp 5 RX3 none) (N : Nat) {k237 : Int32 → Mm → Option Mm} (hk237 : J_X3_setUp_237 θ p l e s m args below meth c k237) : J_X3_setUp_237 θ p l e s m args below meth c (F_X3_setUp_237 N k237) := by
  intro x3 M M1 h H locs ls hl hw hS
  unfold F_X3_setUp_237 at h
  refine lv_iload_n C.1 C.2.1 dX3_setUp_237 rfl (lv_at hl 1 rfl) ?_
  refine lv_aload_n C.1 C.2.1 dX3_setUp_238 rfl (lv_at hl 0 rfl) ?_
  refine gf_X3_n C hw w_525 dX3_setUp_239 ?_
  refine lv_icmp_ge (tgt := 267) C.1 C.2.1 dX3_setUp_242 (by decide) (fun c242 => ?_) (fun c242 => ?_)
  · have h := it_t c242 h
    cases h
    exact k_retv C hw hS dX3_setUp_267
  · have h := it_f c242 h
    refine lv_aload_n C.1 C.2.1 dX3_setUp_245 rfl (lv_at hl 0 rfl) ?_
    refine gf_X3_bound C hw w_535 dX3_setUp_246 ?_
    refine lv_iconst (v := 5) C.1 C.2.1 dX3_setUp_249 (by decide) ?_
    refine lv_aload_n C.1 C.2.1 dX3_setUp_250 rfl (lv_at hl 0 rfl) ?_
    refine gf_X3_bounds C hw w_534 dX3_setUp_251 ?_
    refine lv_imul C.1 C.2.1 dX3_setUp_254 ?_
    refine lv_iconst (v := 5) C.1 C.2.1 dX3_setUp_255 (by decide) ?_
    refine lv_isub C.1 C.2.1 dX3_setUp_256 ?_
    refine lv_iload_n C.1 C.2.1 dX3_setUp_257 rfl (lv_at hl 1 rfl) ?_
    refine lv_iadd C.1 C.2.1 dX3_setUp_258 ?_
    refine lv_iconst (v := 1) C.1 C.2.1 dX3_setUp_259 (by decide) ?_
    obtain ⟨M260, h260, h⟩ := bind_s h
    refine k_iast C hw hS 11 (by decide) h260 dX3_setUp_260 (fun H locs hw hS => ?_)
    refine lv_iinc (v := (x3 + 1)) (lv' := [(3, .int (x3 + 1)), (0, .ref (tad θ 3))]) C.1 C.2.1 dX3_setUp_261 hl (k := 1) rfl rfl (by decide) rfl (fun ls hl => ?_)
    refine lv_goto (tgt := 237) C.1 C.2.1 dX3_setUp_264 (by decide) ?_
    exact hk237 _ _ _ h _ _ ls (lv_sub hl [1, 0] rfl) hw hS
theorem t_X3_setUp_237 {θ : Th} {p : Program} {l : Launch} {e : Env} {s : State} {m : MethodId} {args : Array Value} {below : List Frame} {meth : Method} {c : Code} (C : Cx θ p s m args meth c cX3_setUp 5 RX3 none) (N : Nat) : J_X3_setUp_237 θ p l e s m args below meth c (b_X3_setUp_237 N) := lpT_ind (J := J_X3_setUp_237 θ p l e s m args below meth c) (fun _ _ _ h => by cases h) (fun k hk => tF_X3_setUp_237 C N hk) N
def b_X3_setUp_224 (N : Nat) (x2 : Int32) (M : Mm) : Option Mm :=
  (if x2 = 1 then (f_X3_add N 1 1 M).bind fun M232 => b_X3_setUp_237 N 0 M232 else some M)
set_option maxRecDepth 100000 in
set_option maxHeartbeats 4000000 in
theorem t_X3_setUp_224 {θ : Th} {p : Program} {l : Launch} {e : Env} {s : State} {m : MethodId} {args : Array Value} {below : List Frame} {meth : Method} {c : Code} (C : Cx θ p s m args meth c cX3_setUp 5 RX3 none) (N : Nat) : J_X3_setUp_224 θ p l e s m args below meth c (b_X3_setUp_224 N) := by
  intro x2 M M1 h H locs ls hl hw hS
  unfold b_X3_setUp_224 at h
  refine lv_iload_n C.1 C.2.1 dX3_setUp_224 rfl (lv_at hl 1 rfl) ?_
  refine lv_iconst (v := 1) C.1 C.2.1 dX3_setUp_225 (by decide) ?_
  refine lv_icmp_ne (tgt := 267) C.1 C.2.1 dX3_setUp_226 (by decide) (fun c226 => ?_) (fun c226 => ?_)
  · have h := it_f c226 h
    cases h
    exact k_retv C hw hS dX3_setUp_267
  · have h := it_t c226 h
    refine lv_aload_n C.1 C.2.1 dX3_setUp_229 rfl (lv_at hl 0 rfl) ?_
    refine lv_iconst (v := 1) C.1 C.2.1 dX3_setUp_230 (by decide) ?_
    refine lv_iconst (v := 1) C.1 C.2.1 dX3_setUp_231 (by decide) ?_
    obtain ⟨M232, h232, h⟩ := bind_s h
    refine k_cv (k_runV (As := [.int 1, .int 1]) C cf_X3_add cv_X3_add w_641 rc3 (c_X3_add θ l N h232) ⟨rfl, rfl, Nat.le_of_ble_eq_true rfl, Nat.le_of_ble_eq_true rfl⟩ rfl hl.1 rfl (Nat.le_of_ble_eq_true rfl) dX3_setUp_232 ⟨Nat.zero_le _, Nat.zero_le _⟩ hw) hS (fun H locs hw hS => ?_)
    refine lv_iconst (v := 0) C.1 C.2.1 dX3_setUp_235 (by decide) ?_
    refine lv_istore_n (lv' := [(3, .int 0), (0, .ref (tad θ 3)), (2, .int x2)]) C.1 C.2.1 dX3_setUp_236 rfl hl (by decide) rfl (fun ls hl => ?_)
    exact t_X3_setUp_237 C N _ _ _ h _ _ ls (lv_sub hl [1, 0] rfl) hw hS
def F_X3_setUp_158 (N : Nat) (k158 : Int32 → Int32 → Mm → Option Mm) (x2 : Int32) (x3 : Int32) (M : Mm) : Option Mm :=
  (if (M.1 7) ≤ x3 then (if x2 = 2 then (f_X3_add N 0 1 M).bind fun M202 => (wA M202 11 (((5 * (M202.1 8)) - 5) + (M202.1 4)) 1).bind fun M223 => b_X3_setUp_224 N x2 M223 else b_X3_setUp_224 N x2 M) else (f_X3_add N 2 0 M).bind fun M169 => (wA M169 11 (((5 * (M169.1 8)) - 5) + x3) 1).bind fun M187 => k158 x2 (x3 + 1) M187)
abbrev b_X3_setUp_158 (N : Nat) : Int32 → Int32 → Mm → Option Mm := lpT (fun _ _ _ => none) (F_X3_setUp_158 N) N
set_option maxRecDepth 100000 in
set_option maxHeartbeats 4000000 in
theorem tF_X3_setUp_158 {θ : Th} {p : Program} {l : Launch} {e : Env} {s : State} {m : MethodId} {args : Array Value} {below : List Frame} {meth : Method} {c : Code} (C : Cx θ p s m args meth c cX3_setUp 5 RX3 none) (N : Nat) {k158 : Int32 → Int32 → Mm → Option Mm} (hk158 : J_X3_setUp_158 θ p l e s m args below meth c k158) : J_X3_setUp_158 θ p l e s m args below meth c (F_X3_setUp_158 N k158) := by
  intro x2 x3 M M1 h H locs ls hl hw hS
  unfold F_X3_setUp_158 at h
  refine lv_iload_n C.1 C.2.1 dX3_setUp_158 rfl (lv_at hl 2 rfl) ?_
  refine lv_aload_n C.1 C.2.1 dX3_setUp_159 rfl (lv_at hl 0 rfl) ?_
  refine gf_X3_width C hw w_533 dX3_setUp_160 ?_
  refine lv_icmp_ge (tgt := 194) C.1 C.2.1 dX3_setUp_163 (by decide) (fun c163 => ?_) (fun c163 => ?_)
  · have h := it_t c163 h
    refine lv_iload_n C.1 C.2.1 dX3_setUp_194 rfl (lv_at hl 1 rfl) ?_
    refine lv_iconst (v := 2) C.1 C.2.1 dX3_setUp_195 (by decide) ?_
    refine lv_icmp_ne (tgt := 224) C.1 C.2.1 dX3_setUp_196 (by decide) (fun c196 => ?_) (fun c196 => ?_)
    · have h := it_f c196 h
      exact t_X3_setUp_224 C N _ _ _ h _ _ ls (lv_sub hl [0, 1] rfl) hw hS
    · have h := it_t c196 h
      refine lv_aload_n C.1 C.2.1 dX3_setUp_199 rfl (lv_at hl 0 rfl) ?_
      refine lv_iconst (v := 0) C.1 C.2.1 dX3_setUp_200 (by decide) ?_
      refine lv_iconst (v := 1) C.1 C.2.1 dX3_setUp_201 (by decide) ?_
      obtain ⟨M202, h202, h⟩ := bind_s h
      refine k_cv (k_runV (As := [.int 0, .int 1]) C cf_X3_add cv_X3_add w_641 rc3 (c_X3_add θ l N h202) ⟨rfl, rfl, Nat.le_of_ble_eq_true rfl, Nat.le_of_ble_eq_true rfl⟩ rfl hl.1 rfl (Nat.le_of_ble_eq_true rfl) dX3_setUp_202 ⟨Nat.zero_le _, Nat.zero_le _⟩ hw) hS (fun H locs hw hS => ?_)
      refine lv_aload_n C.1 C.2.1 dX3_setUp_205 rfl (lv_at hl 0 rfl) ?_
      refine gf_X3_bound C hw w_535 dX3_setUp_206 ?_
      refine lv_iconst (v := 5) C.1 C.2.1 dX3_setUp_209 (by decide) ?_
      refine lv_aload_n C.1 C.2.1 dX3_setUp_210 rfl (lv_at hl 0 rfl) ?_
      refine gf_X3_bounds C hw w_534 dX3_setUp_211 ?_
      refine lv_imul C.1 C.2.1 dX3_setUp_214 ?_
      refine lv_iconst (v := 5) C.1 C.2.1 dX3_setUp_215 (by decide) ?_
      refine lv_isub C.1 C.2.1 dX3_setUp_216 ?_
      refine lv_aload_n C.1 C.2.1 dX3_setUp_217 rfl (lv_at hl 0 rfl) ?_
      refine gf_X3_n C hw w_525 dX3_setUp_218 ?_
      refine lv_iadd C.1 C.2.1 dX3_setUp_221 ?_
      refine lv_iconst (v := 1) C.1 C.2.1 dX3_setUp_222 (by decide) ?_
      obtain ⟨M223, h223, h⟩ := bind_s h
      refine k_iast C hw hS 11 (by decide) h223 dX3_setUp_223 (fun H locs hw hS => ?_)
      exact t_X3_setUp_224 C N _ _ _ h _ _ ls (lv_sub hl [0, 1] rfl) hw hS
  · have h := it_f c163 h
    refine lv_aload_n C.1 C.2.1 dX3_setUp_166 rfl (lv_at hl 0 rfl) ?_
    refine lv_iconst (v := 2) C.1 C.2.1 dX3_setUp_167 (by decide) ?_
    refine lv_iconst (v := 0) C.1 C.2.1 dX3_setUp_168 (by decide) ?_
    obtain ⟨M169, h169, h⟩ := bind_s h
    refine k_cv (k_runV (As := [.int 2, .int 0]) C cf_X3_add cv_X3_add w_641 rc3 (c_X3_add θ l N h169) ⟨rfl, rfl, Nat.le_of_ble_eq_true rfl, Nat.le_of_ble_eq_true rfl⟩ rfl hl.1 rfl (Nat.le_of_ble_eq_true rfl) dX3_setUp_169 ⟨Nat.zero_le _, Nat.zero_le _⟩ hw) hS (fun H locs hw hS => ?_)
    refine lv_aload_n C.1 C.2.1 dX3_setUp_172 rfl (lv_at hl 0 rfl) ?_
    refine gf_X3_bound C hw w_535 dX3_setUp_173 ?_
    refine lv_iconst (v := 5) C.1 C.2.1 dX3_setUp_176 (by decide) ?_
    refine lv_aload_n C.1 C.2.1 dX3_setUp_177 rfl (lv_at hl 0 rfl) ?_
    refine gf_X3_bounds C hw w_534 dX3_setUp_178 ?_
    refine lv_imul C.1 C.2.1 dX3_setUp_181 ?_
    refine lv_iconst (v := 5) C.1 C.2.1 dX3_setUp_182 (by decide) ?_
    refine lv_isub C.1 C.2.1 dX3_setUp_183 ?_
    refine lv_iload_n C.1 C.2.1 dX3_setUp_184 rfl (lv_at hl 2 rfl) ?_
    refine lv_iadd C.1 C.2.1 dX3_setUp_185 ?_
    refine lv_iconst (v := 1) C.1 C.2.1 dX3_setUp_186 (by decide) ?_
    obtain ⟨M187, h187, h⟩ := bind_s h
    refine k_iast C hw hS 11 (by decide) h187 dX3_setUp_187 (fun H locs hw hS => ?_)
    refine lv_iinc (v := (x3 + 1)) (lv' := [(3, .int (x3 + 1)), (0, .ref (tad θ 3)), (2, .int x2)]) C.1 C.2.1 dX3_setUp_188 hl (k := 2) rfl rfl (by decide) rfl (fun ls hl => ?_)
    refine lv_goto (tgt := 158) C.1 C.2.1 dX3_setUp_191 (by decide) ?_
    exact hk158 _ _ _ _ h _ _ ls (lv_sub hl [1, 2, 0] rfl) hw hS
theorem t_X3_setUp_158 {θ : Th} {p : Program} {l : Launch} {e : Env} {s : State} {m : MethodId} {args : Array Value} {below : List Frame} {meth : Method} {c : Code} (C : Cx θ p s m args meth c cX3_setUp 5 RX3 none) (N : Nat) : J_X3_setUp_158 θ p l e s m args below meth c (b_X3_setUp_158 N) := lpT_ind (J := J_X3_setUp_158 θ p l e s m args below meth c) (fun _ _ _ _ h => by cases h) (fun k hk => tF_X3_setUp_158 C N hk) N
def F_X3_setUp_29 (N : Nat) (k29 : Int32 → Int32 → Int32 → Mm → Option Mm) (x1 : Int32) (x2 : Int32) (x3 : Int32) (M : Mm) : Option Mm :=
  (if (M.1 5) ≤ x3 then b_X3_setUp_158 N x2 0 M else (if ((x1 >>> (x3 &&& 31)) &&& 1) = 1 then (rA M 10 x3).bind fun v52 => (if x2 = 1 then (f_X3_add N v52 0 M).bind fun M68 => b_X3_setUp_74 N k29 x1 x2 x3 0 M68 else (rA M 7 x3).bind fun v67 => (f_X3_add N v52 v67 M).bind fun M68 => b_X3_setUp_74 N k29 x1 x2 x3 0 M68) else k29 x1 x2 (x3 + 1) M))
abbrev b_X3_setUp_29 (N : Nat) : Int32 → Int32 → Int32 → Mm → Option Mm := lpT (fun _ _ _ _ => none) (F_X3_setUp_29 N) N
set_option maxRecDepth 100000 in
set_option maxHeartbeats 4000000 in
theorem tF_X3_setUp_29 {θ : Th} {p : Program} {l : Launch} {e : Env} {s : State} {m : MethodId} {args : Array Value} {below : List Frame} {meth : Method} {c : Code} (C : Cx θ p s m args meth c cX3_setUp 5 RX3 none) (N : Nat) {k29 : Int32 → Int32 → Int32 → Mm → Option Mm} (hk29 : J_X3_setUp_29 θ p l e s m args below meth c k29) : J_X3_setUp_29 θ p l e s m args below meth c (F_X3_setUp_29 N k29) := by
  intro x1 x2 x3 M M1 h H locs ls hl hw hS
  unfold F_X3_setUp_29 at h
  refine lv_iload_n C.1 C.2.1 dX3_setUp_29 rfl (lv_at hl 3 rfl) ?_
  refine lv_aload_n C.1 C.2.1 dX3_setUp_30 rfl (lv_at hl 0 rfl) ?_
  refine gf_X3_m C hw w_526 dX3_setUp_31 ?_
  refine lv_icmp_ge (tgt := 156) C.1 C.2.1 dX3_setUp_34 (by decide) (fun c34 => ?_) (fun c34 => ?_)
  · have h := it_t c34 h
    refine lv_iconst (v := 0) C.1 C.2.1 dX3_setUp_156 (by decide) ?_
    refine lv_istore_n (lv' := [(3, .int 0), (0, .ref (tad θ 3)), (1, .int x1), (2, .int x2)]) C.1 C.2.1 dX3_setUp_157 rfl hl (by decide) rfl (fun ls hl => ?_)
    exact t_X3_setUp_158 C N _ _ _ _ h _ _ ls (lv_sub hl [1, 3, 0] rfl) hw hS
  · have h := it_f c34 h
    refine lv_iload_n C.1 C.2.1 dX3_setUp_37 rfl (lv_at hl 1 rfl) ?_
    refine lv_iload_n C.1 C.2.1 dX3_setUp_38 rfl (lv_at hl 3 rfl) ?_
    refine lv_ishr C.1 C.2.1 dX3_setUp_39 ?_
    refine lv_iconst (v := 1) C.1 C.2.1 dX3_setUp_40 (by decide) ?_
    refine lv_iand C.1 C.2.1 dX3_setUp_41 ?_
    refine lv_iconst (v := 1) C.1 C.2.1 dX3_setUp_42 (by decide) ?_
    refine lv_icmp_ne (tgt := 150) C.1 C.2.1 dX3_setUp_43 (by decide) (fun c43 => ?_) (fun c43 => ?_)
    · have h := it_f c43 h
      refine lv_iinc (v := (x3 + 1)) (lv' := [(3, .int (x3 + 1)), (0, .ref (tad θ 3)), (1, .int x1), (2, .int x2)]) C.1 C.2.1 dX3_setUp_150 hl (k := 3) rfl rfl (by decide) rfl (fun ls hl => ?_)
      refine lv_goto (tgt := 29) C.1 C.2.1 dX3_setUp_153 (by decide) ?_
      exact hk29 _ _ _ _ _ h _ _ ls (lv_sub hl [1, 2, 3, 0] rfl) hw hS
    · have h := it_t c43 h
      refine lv_aload_n C.1 C.2.1 dX3_setUp_46 rfl (lv_at hl 0 rfl) ?_
      refine lv_aload_n C.1 C.2.1 dX3_setUp_47 rfl (lv_at hl 0 rfl) ?_
      refine gf_X3_senses C hw w_531 dX3_setUp_48 ?_
      refine lv_iload_n C.1 C.2.1 dX3_setUp_51 rfl (lv_at hl 3 rfl) ?_
      obtain ⟨v52, h52, h⟩ := bind_s h
      refine k_iald C hw 10 (by decide) h52 dX3_setUp_52 ?_
      refine lv_iload_n C.1 C.2.1 dX3_setUp_53 rfl (lv_at hl 2 rfl) ?_
      refine lv_iconst (v := 1) C.1 C.2.1 dX3_setUp_54 (by decide) ?_
      refine lv_icmp_ne (tgt := 62) C.1 C.2.1 dX3_setUp_55 (by decide) (fun c55 => ?_) (fun c55 => ?_)
      · have h := it_f c55 h
        refine lv_aload_n C.1 C.2.1 dX3_setUp_62 rfl (lv_at hl 0 rfl) ?_
        refine gf_X3_b C hw w_528 dX3_setUp_63 ?_
        refine lv_iload_n C.1 C.2.1 dX3_setUp_66 rfl (lv_at hl 3 rfl) ?_
        obtain ⟨v67, h67, h⟩ := bind_s h
        refine k_iald C hw 7 (by decide) h67 dX3_setUp_67 ?_
        obtain ⟨M68, h68, h⟩ := bind_s h
        refine k_cv (k_runV (As := [.int v52, .int v67]) C cf_X3_add cv_X3_add w_641 rc3 (c_X3_add θ l N h68) ⟨rfl, rfl, Nat.le_of_ble_eq_true rfl, Nat.le_of_ble_eq_true rfl⟩ rfl hl.1 rfl (Nat.le_of_ble_eq_true rfl) dX3_setUp_68 ⟨Nat.zero_le _, Nat.zero_le _⟩ hw) hS (fun H locs hw hS => ?_)
        refine lv_iconst (v := 0) C.1 C.2.1 dX3_setUp_71 (by decide) ?_
        refine lv_istore (lv' := [(4, .int 0), (0, .ref (tad θ 3)), (1, .int x1), (2, .int x2), (3, .int x3)]) C.1 C.2.1 dX3_setUp_72 hl (by decide) rfl (fun ls hl => ?_)
        exact t_X3_setUp_74 C N hk29 _ _ _ _ _ _ h _ _ ls (lv_sub hl [1, 2, 3, 4, 0] rfl) hw hS
      · have h := it_t c55 h
        refine lv_iconst (v := 0) C.1 C.2.1 dX3_setUp_58 (by decide) ?_
        refine lv_goto (tgt := 68) C.1 C.2.1 dX3_setUp_59 (by decide) ?_
        obtain ⟨M68, h68, h⟩ := bind_s h
        refine k_cv (k_runV (As := [.int v52, .int 0]) C cf_X3_add cv_X3_add w_641 rc3 (c_X3_add θ l N h68) ⟨rfl, rfl, Nat.le_of_ble_eq_true rfl, Nat.le_of_ble_eq_true rfl⟩ rfl hl.1 rfl (Nat.le_of_ble_eq_true rfl) dX3_setUp_68 ⟨Nat.zero_le _, Nat.zero_le _⟩ hw) hS (fun H locs hw hS => ?_)
        refine lv_iconst (v := 0) C.1 C.2.1 dX3_setUp_71 (by decide) ?_
        refine lv_istore (lv' := [(4, .int 0), (0, .ref (tad θ 3)), (1, .int x1), (2, .int x2), (3, .int x3)]) C.1 C.2.1 dX3_setUp_72 hl (by decide) rfl (fun ls hl => ?_)
        exact t_X3_setUp_74 C N hk29 _ _ _ _ _ _ h _ _ ls (lv_sub hl [1, 2, 3, 4, 0] rfl) hw hS
theorem t_X3_setUp_29 {θ : Th} {p : Program} {l : Launch} {e : Env} {s : State} {m : MethodId} {args : Array Value} {below : List Frame} {meth : Method} {c : Code} (C : Cx θ p s m args meth c cX3_setUp 5 RX3 none) (N : Nat) : J_X3_setUp_29 θ p l e s m args below meth c (b_X3_setUp_29 N) := lpT_ind (J := J_X3_setUp_29 θ p l e s m args below meth c) (fun _ _ _ _ _ h => by cases h) (fun k hk => tF_X3_setUp_29 C N hk) N
def b_X3_setUp_19 (N : Nat) (x1 : Int32) (x2 : Int32) (s0 : Int32) (M : Mm) : Option Mm :=
  b_X3_setUp_29 N x1 x2 0 (wI (wI M 7 s0) 8 0)
set_option maxRecDepth 100000 in
set_option maxHeartbeats 4000000 in
theorem t_X3_setUp_19 {θ : Th} {p : Program} {l : Launch} {e : Env} {s : State} {m : MethodId} {args : Array Value} {below : List Frame} {meth : Method} {c : Code} (C : Cx θ p s m args meth c cX3_setUp 5 RX3 none) (N : Nat) : J_X3_setUp_19 θ p l e s m args below meth c (b_X3_setUp_19 N) := by
  intro x1 x2 s0 M M1 h H locs ls hl hw hS
  unfold b_X3_setUp_19 at h
  refine pf_X3_width C hw hS w_533 dX3_setUp_19 (fun H locs hw hS => ?_)
  refine lv_aload_n C.1 C.2.1 dX3_setUp_22 rfl (lv_at hl 0 rfl) ?_
  refine lv_iconst (v := 0) C.1 C.2.1 dX3_setUp_23 (by decide) ?_
  refine pf_X3_bounds C hw hS w_534 dX3_setUp_24 (fun H locs hw hS => ?_)
  refine lv_iconst (v := 0) C.1 C.2.1 dX3_setUp_27 (by decide) ?_
  refine lv_istore_n (lv' := [(3, .int 0), (0, .ref (tad θ 3)), (1, .int x1), (2, .int x2)]) C.1 C.2.1 dX3_setUp_28 rfl hl (by decide) rfl (fun ls hl => ?_)
  exact t_X3_setUp_29 C N _ _ _ _ _ h _ _ ls (lv_sub hl [1, 2, 3, 0] rfl) hw hS
def b_X3_setUp_0 (N : Nat) (x1 : Int32) (x2 : Int32) (M : Mm) : Option Mm :=
  (if x2 = 2 then b_X3_setUp_19 N x1 x2 ((M.1 4) + 1) M else b_X3_setUp_19 N x1 x2 (M.1 4) M)
set_option maxRecDepth 100000 in
set_option maxHeartbeats 4000000 in
theorem t_X3_setUp_0 {θ : Th} {p : Program} {l : Launch} {e : Env} {s : State} {m : MethodId} {args : Array Value} {below : List Frame} {meth : Method} {c : Code} (C : Cx θ p s m args meth c cX3_setUp 5 RX3 none) (N : Nat) : J_X3_setUp_0 θ p l e s m args below meth c (b_X3_setUp_0 N) := by
  intro x1 x2 M M1 h H locs ls hl hw hS
  unfold b_X3_setUp_0 at h
  refine lv_aload_n C.1 C.2.1 dX3_setUp_0 rfl (lv_at hl 0 rfl) ?_
  refine lv_iload_n C.1 C.2.1 dX3_setUp_1 rfl (lv_at hl 2 rfl) ?_
  refine lv_iconst (v := 2) C.1 C.2.1 dX3_setUp_2 (by decide) ?_
  refine lv_icmp_ne (tgt := 15) C.1 C.2.1 dX3_setUp_3 (by decide) (fun c3 => ?_) (fun c3 => ?_)
  · have h := it_f c3 h
    refine lv_aload_n C.1 C.2.1 dX3_setUp_15 rfl (lv_at hl 0 rfl) ?_
    refine gf_X3_n C hw w_525 dX3_setUp_16 ?_
    exact t_X3_setUp_19 C N _ _ _ _ _ h _ _ ls (lv_sub hl [0, 1, 2] rfl) hw hS
  · have h := it_t c3 h
    refine lv_aload_n C.1 C.2.1 dX3_setUp_6 rfl (lv_at hl 0 rfl) ?_
    refine gf_X3_n C hw w_525 dX3_setUp_7 ?_
    refine lv_iconst (v := 1) C.1 C.2.1 dX3_setUp_10 (by decide) ?_
    refine lv_iadd C.1 C.2.1 dX3_setUp_11 ?_
    refine lv_goto (tgt := 19) C.1 C.2.1 dX3_setUp_12 (by decide) ?_
    exact t_X3_setUp_19 C N _ _ _ _ _ h _ _ ls (lv_sub hl [0, 1, 2] rfl) hw hS
def f_X3_setUp (N : Nat) (x1 : Int32) (x2 : Int32) (M : Mm) : Option Mm := b_X3_setUp_0 N x1 x2 M
set_option maxRecDepth 100000 in
theorem c_X3_setUp (θ : Th) (l : Launch) (N : Nat) {x1 : Int32} {x2 : Int32} {M : Mm} {M1 : Mm} (h : f_X3_setUp N x1 x2 M = some M1) : Met l yX3_setUp (gws yX3_setUp cX3_setUp 5 none) rm_X3_setUp (va_Pc [.ref (tad θ 3), .int x1, .int x2] (wU θ M)) (qV θ M1) 0 0 (tA θ) :=
  k_met (by decide +kernel) (Nat.le_of_ble_eq_true rfl) (fun p e s m args below meth c C ls hl hw => t_X3_setUp_0 C N _ _ _ _ h _ _ ls (lv_sub hl [0, 1, 2] rfl) hw va_S.rf)
abbrev rm_X3_picked : Room := { frames := 0, cells := 0, slots := 0, locals := 0 }
def J_X3_picked_71 (θ : Th) (p : Program) (l : Launch) (e : Env) (s : State) (m : MethodId) (args : Array Value) (below : List Frame) (meth : Method) (c : Code) (g : Int32 → Int32 → Int32 → Mm → Option (Int32 × Mm)) : Prop := ∀ (x1 : Int32) (x2 : Int32) (x3 : Int32) (M : Mm) (r : Int32) (M1 : Mm), g x1 x2 x3 M = some (r, M1) → ∀ (H : Heap) (locs : List Loc) (ls : Array Slot), lv_has ls 5 [(0, .ref (tad θ 3)), (1, .int x1), (2, .int x2), (3, .int x3)] → wd θ M H → va_S (tA θ) s.heap H locs → W p l e rm_X3_picked s m args below meth c H locs 0 0 (MQ below (qI θ r M1) args s 0 0 (tA θ)) (F0 m 71 ls [])
def J_X3_picked_24 (θ : Th) (p : Program) (l : Launch) (e : Env) (s : State) (m : MethodId) (args : Array Value) (below : List Frame) (meth : Method) (c : Code) (g : Int32 → Int32 → Int32 → Int32 → Mm → Option (Int32 × Mm)) : Prop := ∀ (x1 : Int32) (x2 : Int32) (x3 : Int32) (x4 : Int32) (M : Mm) (r : Int32) (M1 : Mm), g x1 x2 x3 x4 M = some (r, M1) → ∀ (H : Heap) (locs : List Loc) (ls : Array Slot), lv_has ls 5 [(0, .ref (tad θ 3)), (1, .int x1), (2, .int x2), (3, .int x3), (4, .int x4)] → wd θ M H → va_S (tA θ) s.heap H locs → W p l e rm_X3_picked s m args below meth c H locs 0 0 (MQ below (qI θ r M1) args s 0 0 (tA θ)) (F0 m 24 ls [])
def J_X3_picked_4 (θ : Th) (p : Program) (l : Launch) (e : Env) (s : State) (m : MethodId) (args : Array Value) (below : List Frame) (meth : Method) (c : Code) (g : Int32 → Int32 → Int32 → Mm → Option (Int32 × Mm)) : Prop := ∀ (x1 : Int32) (x2 : Int32) (x3 : Int32) (M : Mm) (r : Int32) (M1 : Mm), g x1 x2 x3 M = some (r, M1) → ∀ (H : Heap) (locs : List Loc) (ls : Array Slot), lv_has ls 5 [(0, .ref (tad θ 3)), (1, .int x1), (2, .int x2), (3, .int x3)] → wd θ M H → va_S (tA θ) s.heap H locs → W p l e rm_X3_picked s m args below meth c H locs 0 0 (MQ below (qI θ r M1) args s 0 0 (tA θ)) (F0 m 4 ls [])
def J_X3_picked_0 (θ : Th) (p : Program) (l : Launch) (e : Env) (s : State) (m : MethodId) (args : Array Value) (below : List Frame) (meth : Method) (c : Code) (g : Int32 → Mm → Option (Int32 × Mm)) : Prop := ∀ (x1 : Int32) (M : Mm) (r : Int32) (M1 : Mm), g x1 M = some (r, M1) → ∀ (H : Heap) (locs : List Loc) (ls : Array Slot), lv_has ls 5 [(0, .ref (tad θ 3)), (1, .int x1)] → wd θ M H → va_S (tA θ) s.heap H locs → W p l e rm_X3_picked s m args below meth c H locs 0 0 (MQ below (qI θ r M1) args s 0 0 (tA θ)) (F0 m 0 ls [])
def b_X3_picked_71 (N : Nat) (k4 : Int32 → Int32 → Int32 → Mm → Option (Int32 × Mm)) (x1 : Int32) (x2 : Int32) (x3 : Int32) (M : Mm) : Option (Int32 × Mm) :=
  (if (M.1 7) ≤ x2 then k4 x1 (x2 + 1) (x3 + 1) M else (rA M 13 x3).bind fun v97 => (wL M 1 ((6 * x2) + (M.1 7)) (Int32.toInt64 v97)).bind fun M99 => k4 x1 (x2 + 1) (x3 + 1) M99)
set_option maxRecDepth 100000 in
set_option maxHeartbeats 4000000 in
theorem t_X3_picked_71 {θ : Th} {p : Program} {l : Launch} {e : Env} {s : State} {m : MethodId} {args : Array Value} {below : List Frame} {meth : Method} {c : Code} (C : Cx θ p s m args meth c cX3_picked 5 RX3 (some .boolean)) (N : Nat) {k4 : Int32 → Int32 → Int32 → Mm → Option (Int32 × Mm)} (hk4 : J_X3_picked_4 θ p l e s m args below meth c k4) : J_X3_picked_71 θ p l e s m args below meth c (b_X3_picked_71 N k4) := by
  intro x1 x2 x3 M r M1 h H locs ls hl hw hS
  unfold b_X3_picked_71 at h
  refine lv_iload_n C.1 C.2.1 dX3_picked_71 rfl (lv_at hl 2 rfl) ?_
  refine lv_aload_n C.1 C.2.1 dX3_picked_72 rfl (lv_at hl 0 rfl) ?_
  refine gf_X3_width C hw w_533 dX3_picked_73 ?_
  refine lv_icmp_ge (tgt := 100) C.1 C.2.1 dX3_picked_76 (by decide) (fun c76 => ?_) (fun c76 => ?_)
  · have h := it_t c76 h
    refine lv_iinc (v := (x2 + 1)) (lv' := [(2, .int (x2 + 1)), (0, .ref (tad θ 3)), (1, .int x1), (3, .int x3)]) C.1 C.2.1 dX3_picked_100 hl (k := 2) rfl rfl (by decide) rfl (fun ls hl => ?_)
    refine lv_iinc (v := (x3 + 1)) (lv' := [(3, .int (x3 + 1)), (2, .int (x2 + 1)), (0, .ref (tad θ 3)), (1, .int x1)]) C.1 C.2.1 dX3_picked_103 hl (k := 3) rfl rfl (by decide) rfl (fun ls hl => ?_)
    refine lv_goto (tgt := 4) C.1 C.2.1 dX3_picked_106 (by decide) ?_
    exact hk4 _ _ _ _ _ _ h _ _ ls (lv_sub hl [2, 3, 1, 0] rfl) hw hS
  · have h := it_f c76 h
    refine lv_aload_n C.1 C.2.1 dX3_picked_79 rfl (lv_at hl 0 rfl) ?_
    refine gf_X3_matrix C hw w_538 dX3_picked_80 ?_
    refine lv_bipush (v := 6) C.1 C.2.1 dX3_picked_83 (by decide) ?_
    refine lv_iload_n C.1 C.2.1 dX3_picked_85 rfl (lv_at hl 2 rfl) ?_
    refine lv_imul C.1 C.2.1 dX3_picked_86 ?_
    refine lv_aload_n C.1 C.2.1 dX3_picked_87 rfl (lv_at hl 0 rfl) ?_
    refine gf_X3_width C hw w_533 dX3_picked_88 ?_
    refine lv_iadd C.1 C.2.1 dX3_picked_91 ?_
    refine lv_aload_n C.1 C.2.1 dX3_picked_92 rfl (lv_at hl 0 rfl) ?_
    refine gf_X3_boundRight C hw w_537 dX3_picked_93 ?_
    refine lv_iload_n C.1 C.2.1 dX3_picked_96 rfl (lv_at hl 3 rfl) ?_
    obtain ⟨v97, h97, h⟩ := bind_s h
    refine k_iald C hw 13 (by decide) h97 dX3_picked_97 ?_
    refine lv_i2l (v := (Int32.toInt64 v97)) C.1 C.2.1 dX3_picked_98 rfl ?_
    obtain ⟨M99, h99, h⟩ := bind_s h
    refine k_last C hw hS 1 h99 dX3_picked_99 (fun H locs hw hS => ?_)
    refine lv_iinc (v := (x2 + 1)) (lv' := [(2, .int (x2 + 1)), (0, .ref (tad θ 3)), (1, .int x1), (3, .int x3)]) C.1 C.2.1 dX3_picked_100 hl (k := 2) rfl rfl (by decide) rfl (fun ls hl => ?_)
    refine lv_iinc (v := (x3 + 1)) (lv' := [(3, .int (x3 + 1)), (2, .int (x2 + 1)), (0, .ref (tad θ 3)), (1, .int x1)]) C.1 C.2.1 dX3_picked_103 hl (k := 3) rfl rfl (by decide) rfl (fun ls hl => ?_)
    refine lv_goto (tgt := 4) C.1 C.2.1 dX3_picked_106 (by decide) ?_
    exact hk4 _ _ _ _ _ _ h _ _ ls (lv_sub hl [2, 3, 1, 0] rfl) hw hS
def F_X3_picked_24 (N : Nat) (k4 : Int32 → Int32 → Int32 → Mm → Option (Int32 × Mm)) (k24 : Int32 → Int32 → Int32 → Int32 → Mm → Option (Int32 × Mm)) (x1 : Int32) (x2 : Int32) (x3 : Int32) (x4 : Int32) (M : Mm) : Option (Int32 × Mm) :=
  (if (M.1 7) ≤ x4 then b_X3_picked_71 N k4 x1 x2 x3 M else (if (M.1 7) ≤ x2 then b_X3_picked_71 N k4 x1 x2 x3 M else (rA M 11 ((5 * x3) + x4)).bind fun v62 => (wL M 1 ((6 * x2) + x4) (Int32.toInt64 v62)).bind fun M64 => k24 x1 x2 x3 (x4 + 1) M64))
abbrev b_X3_picked_24 (N : Nat) (k4 : Int32 → Int32 → Int32 → Mm → Option (Int32 × Mm)) : Int32 → Int32 → Int32 → Int32 → Mm → Option (Int32 × Mm) := lpT (fun _ _ _ _ _ => none) (F_X3_picked_24 N k4) N
set_option maxRecDepth 100000 in
set_option maxHeartbeats 4000000 in
theorem tF_X3_picked_24 {θ : Th} {p : Program} {l : Launch} {e : Env} {s : State} {m : MethodId} {args : Array Value} {below : List Frame} {meth : Method} {c : Code} (C : Cx θ p s m args meth c cX3_picked 5 RX3 (some .boolean)) (N : Nat) {k4 : Int32 → Int32 → Int32 → Mm → Option (Int32 × Mm)} (hk4 : J_X3_picked_4 θ p l e s m args below meth c k4) {k24 : Int32 → Int32 → Int32 → Int32 → Mm → Option (Int32 × Mm)} (hk24 : J_X3_picked_24 θ p l e s m args below meth c k24) : J_X3_picked_24 θ p l e s m args below meth c (F_X3_picked_24 N k4 k24) := by
  intro x1 x2 x3 x4 M r M1 h H locs ls hl hw hS
  unfold F_X3_picked_24 at h
  refine lv_iload C.1 C.2.1 dX3_picked_24 (lv_at hl 4 rfl) ?_
  refine lv_aload_n C.1 C.2.1 dX3_picked_26 rfl (lv_at hl 0 rfl) ?_
  refine gf_X3_width C hw w_533 dX3_picked_27 ?_
  refine lv_icmp_ge (tgt := 71) C.1 C.2.1 dX3_picked_30 (by decide) (fun c30 => ?_) (fun c30 => ?_)
  · have h := it_t c30 h
    exact t_X3_picked_71 C N hk4 _ _ _ _ _ _ h _ _ ls (lv_sub hl [0, 1, 2, 3] rfl) hw hS
  · have h := it_f c30 h
    refine lv_iload_n C.1 C.2.1 dX3_picked_33 rfl (lv_at hl 2 rfl) ?_
    refine lv_aload_n C.1 C.2.1 dX3_picked_34 rfl (lv_at hl 0 rfl) ?_
    refine gf_X3_width C hw w_533 dX3_picked_35 ?_
    refine lv_icmp_ge (tgt := 71) C.1 C.2.1 dX3_picked_38 (by decide) (fun c38 => ?_) (fun c38 => ?_)
    · have h := it_t c38 h
      exact t_X3_picked_71 C N hk4 _ _ _ _ _ _ h _ _ ls (lv_sub hl [0, 1, 2, 3] rfl) hw hS
    · have h := it_f c38 h
      refine lv_aload_n C.1 C.2.1 dX3_picked_41 rfl (lv_at hl 0 rfl) ?_
      refine gf_X3_matrix C hw w_538 dX3_picked_42 ?_
      refine lv_bipush (v := 6) C.1 C.2.1 dX3_picked_45 (by decide) ?_
      refine lv_iload_n C.1 C.2.1 dX3_picked_47 rfl (lv_at hl 2 rfl) ?_
      refine lv_imul C.1 C.2.1 dX3_picked_48 ?_
      refine lv_iload C.1 C.2.1 dX3_picked_49 (lv_at hl 4 rfl) ?_
      refine lv_iadd C.1 C.2.1 dX3_picked_51 ?_
      refine lv_aload_n C.1 C.2.1 dX3_picked_52 rfl (lv_at hl 0 rfl) ?_
      refine gf_X3_bound C hw w_535 dX3_picked_53 ?_
      refine lv_iconst (v := 5) C.1 C.2.1 dX3_picked_56 (by decide) ?_
      refine lv_iload_n C.1 C.2.1 dX3_picked_57 rfl (lv_at hl 3 rfl) ?_
      refine lv_imul C.1 C.2.1 dX3_picked_58 ?_
      refine lv_iload C.1 C.2.1 dX3_picked_59 (lv_at hl 4 rfl) ?_
      refine lv_iadd C.1 C.2.1 dX3_picked_61 ?_
      obtain ⟨v62, h62, h⟩ := bind_s h
      refine k_iald C hw 11 (by decide) h62 dX3_picked_62 ?_
      refine lv_i2l (v := (Int32.toInt64 v62)) C.1 C.2.1 dX3_picked_63 rfl ?_
      obtain ⟨M64, h64, h⟩ := bind_s h
      refine k_last C hw hS 1 h64 dX3_picked_64 (fun H locs hw hS => ?_)
      refine lv_iinc (v := (x4 + 1)) (lv' := [(4, .int (x4 + 1)), (0, .ref (tad θ 3)), (1, .int x1), (2, .int x2), (3, .int x3)]) C.1 C.2.1 dX3_picked_65 hl (k := 4) rfl rfl (by decide) rfl (fun ls hl => ?_)
      refine lv_goto (tgt := 24) C.1 C.2.1 dX3_picked_68 (by decide) ?_
      exact hk24 _ _ _ _ _ _ _ h _ _ ls (lv_sub hl [1, 2, 3, 4, 0] rfl) hw hS
theorem t_X3_picked_24 {θ : Th} {p : Program} {l : Launch} {e : Env} {s : State} {m : MethodId} {args : Array Value} {below : List Frame} {meth : Method} {c : Code} (C : Cx θ p s m args meth c cX3_picked 5 RX3 (some .boolean)) (N : Nat) {k4 : Int32 → Int32 → Int32 → Mm → Option (Int32 × Mm)} (hk4 : J_X3_picked_4 θ p l e s m args below meth c k4) : J_X3_picked_24 θ p l e s m args below meth c (b_X3_picked_24 N k4) := lpT_ind (J := J_X3_picked_24 θ p l e s m args below meth c) (fun _ _ _ _ _ _ _ h => by cases h) (fun k hk => tF_X3_picked_24 C N hk4 hk) N
def F_X3_picked_4 (N : Nat) (k4 : Int32 → Int32 → Int32 → Mm → Option (Int32 × Mm)) (x1 : Int32) (x2 : Int32) (x3 : Int32) (M : Mm) : Option (Int32 × Mm) :=
  (if (M.1 8) ≤ x3 then (if x2 = (M.1 7) then some (1, M) else some (0, M)) else (if ((x1 >>> (x3 &&& 31)) &&& 1) = 1 then b_X3_picked_24 N k4 x1 x2 x3 0 M else k4 x1 x2 (x3 + 1) M))
abbrev b_X3_picked_4 (N : Nat) : Int32 → Int32 → Int32 → Mm → Option (Int32 × Mm) := lpT (fun _ _ _ _ => none) (F_X3_picked_4 N) N
set_option maxRecDepth 100000 in
set_option maxHeartbeats 4000000 in
theorem tF_X3_picked_4 {θ : Th} {p : Program} {l : Launch} {e : Env} {s : State} {m : MethodId} {args : Array Value} {below : List Frame} {meth : Method} {c : Code} (C : Cx θ p s m args meth c cX3_picked 5 RX3 (some .boolean)) (N : Nat) {k4 : Int32 → Int32 → Int32 → Mm → Option (Int32 × Mm)} (hk4 : J_X3_picked_4 θ p l e s m args below meth c k4) : J_X3_picked_4 θ p l e s m args below meth c (F_X3_picked_4 N k4) := by
  intro x1 x2 x3 M r M1 h H locs ls hl hw hS
  unfold F_X3_picked_4 at h
  refine lv_iload_n C.1 C.2.1 dX3_picked_4 rfl (lv_at hl 3 rfl) ?_
  refine lv_aload_n C.1 C.2.1 dX3_picked_5 rfl (lv_at hl 0 rfl) ?_
  refine gf_X3_bounds C hw w_534 dX3_picked_6 ?_
  refine lv_icmp_ge (tgt := 109) C.1 C.2.1 dX3_picked_9 (by decide) (fun c9 => ?_) (fun c9 => ?_)
  · have h := it_t c9 h
    refine lv_iload_n C.1 C.2.1 dX3_picked_109 rfl (lv_at hl 2 rfl) ?_
    refine lv_aload_n C.1 C.2.1 dX3_picked_110 rfl (lv_at hl 0 rfl) ?_
    refine gf_X3_width C hw w_533 dX3_picked_111 ?_
    refine lv_icmp_ne (tgt := 121) C.1 C.2.1 dX3_picked_114 (by decide) (fun c114 => ?_) (fun c114 => ?_)
    · have h := it_f c114 h
      refine lv_iconst (v := 0) C.1 C.2.1 dX3_picked_121 (by decide) ?_
      cases h
      exact k_retz C hw hS (Or.inl rfl) dX3_picked_122
    · have h := it_t c114 h
      refine lv_iconst (v := 1) C.1 C.2.1 dX3_picked_117 (by decide) ?_
      refine lv_goto (tgt := 122) C.1 C.2.1 dX3_picked_118 (by decide) ?_
      cases h
      exact k_retz C hw hS (Or.inr rfl) dX3_picked_122
  · have h := it_f c9 h
    refine lv_iload_n C.1 C.2.1 dX3_picked_12 rfl (lv_at hl 1 rfl) ?_
    refine lv_iload_n C.1 C.2.1 dX3_picked_13 rfl (lv_at hl 3 rfl) ?_
    refine lv_ishr C.1 C.2.1 dX3_picked_14 ?_
    refine lv_iconst (v := 1) C.1 C.2.1 dX3_picked_15 (by decide) ?_
    refine lv_iand C.1 C.2.1 dX3_picked_16 ?_
    refine lv_iconst (v := 1) C.1 C.2.1 dX3_picked_17 (by decide) ?_
    refine lv_icmp_ne (tgt := 103) C.1 C.2.1 dX3_picked_18 (by decide) (fun c18 => ?_) (fun c18 => ?_)
    · have h := it_f c18 h
      refine lv_iinc (v := (x3 + 1)) (lv' := [(3, .int (x3 + 1)), (0, .ref (tad θ 3)), (1, .int x1), (2, .int x2)]) C.1 C.2.1 dX3_picked_103 hl (k := 3) rfl rfl (by decide) rfl (fun ls hl => ?_)
      refine lv_goto (tgt := 4) C.1 C.2.1 dX3_picked_106 (by decide) ?_
      exact hk4 _ _ _ _ _ _ h _ _ ls (lv_sub hl [1, 2, 3, 0] rfl) hw hS
    · have h := it_t c18 h
      refine lv_iconst (v := 0) C.1 C.2.1 dX3_picked_21 (by decide) ?_
      refine lv_istore (lv' := [(4, .int 0), (0, .ref (tad θ 3)), (1, .int x1), (2, .int x2), (3, .int x3)]) C.1 C.2.1 dX3_picked_22 hl (by decide) rfl (fun ls hl => ?_)
      exact t_X3_picked_24 C N hk4 _ _ _ _ _ _ _ h _ _ ls (lv_sub hl [1, 2, 3, 4, 0] rfl) hw hS
theorem t_X3_picked_4 {θ : Th} {p : Program} {l : Launch} {e : Env} {s : State} {m : MethodId} {args : Array Value} {below : List Frame} {meth : Method} {c : Code} (C : Cx θ p s m args meth c cX3_picked 5 RX3 (some .boolean)) (N : Nat) : J_X3_picked_4 θ p l e s m args below meth c (b_X3_picked_4 N) := lpT_ind (J := J_X3_picked_4 θ p l e s m args below meth c) (fun _ _ _ _ _ _ h => by cases h) (fun k hk => tF_X3_picked_4 C N hk) N
def b_X3_picked_0 (N : Nat) (x1 : Int32) (M : Mm) : Option (Int32 × Mm) :=
  b_X3_picked_4 N x1 0 0 M
set_option maxRecDepth 100000 in
set_option maxHeartbeats 4000000 in
theorem t_X3_picked_0 {θ : Th} {p : Program} {l : Launch} {e : Env} {s : State} {m : MethodId} {args : Array Value} {below : List Frame} {meth : Method} {c : Code} (C : Cx θ p s m args meth c cX3_picked 5 RX3 (some .boolean)) (N : Nat) : J_X3_picked_0 θ p l e s m args below meth c (b_X3_picked_0 N) := by
  intro x1 M r M1 h H locs ls hl hw hS
  unfold b_X3_picked_0 at h
  refine lv_iconst (v := 0) C.1 C.2.1 dX3_picked_0 (by decide) ?_
  refine lv_istore_n (lv' := [(2, .int 0), (0, .ref (tad θ 3)), (1, .int x1)]) C.1 C.2.1 dX3_picked_1 rfl hl (by decide) rfl (fun ls hl => ?_)
  refine lv_iconst (v := 0) C.1 C.2.1 dX3_picked_2 (by decide) ?_
  refine lv_istore_n (lv' := [(3, .int 0), (2, .int 0), (0, .ref (tad θ 3)), (1, .int x1)]) C.1 C.2.1 dX3_picked_3 rfl hl (by decide) rfl (fun ls hl => ?_)
  exact t_X3_picked_4 C N _ _ _ _ _ _ h _ _ ls (lv_sub hl [2, 3, 1, 0] rfl) hw hS
def f_X3_picked (N : Nat) (x1 : Int32) (M : Mm) : Option (Int32 × Mm) := b_X3_picked_0 N x1 M
set_option maxRecDepth 100000 in
theorem c_X3_picked (θ : Th) (l : Launch) (N : Nat) {x1 : Int32} {M : Mm} {r : Int32} {M1 : Mm} (h : f_X3_picked N x1 M = some (r, M1)) : Met l yX3_picked (gws yX3_picked cX3_picked 5 (some .boolean)) rm_X3_picked (va_Pc [.ref (tad θ 3), .int x1] (wU θ M)) (qI θ r M1) 0 0 (tA θ) :=
  k_met (by decide +kernel) (Nat.le_of_ble_eq_true rfl) (fun p e s m args below meth c C ls hl hw => t_X3_picked_0 C N _ _ _ _ h _ _ ls (lv_sub hl [0, 1] rfl) hw va_S.rf)
abbrev rm_X3_swap : Room := { frames := 0, cells := 0, slots := 0, locals := 0 }
def J_X3_swap_2 (θ : Th) (p : Program) (l : Launch) (e : Env) (s : State) (m : MethodId) (args : Array Value) (below : List Frame) (meth : Method) (c : Code) (g : Int32 → Int32 → Int32 → Mm → Option Mm) : Prop := ∀ (x1 : Int32) (x2 : Int32) (x3 : Int32) (M : Mm) (M1 : Mm), g x1 x2 x3 M = some M1 → ∀ (H : Heap) (locs : List Loc) (ls : Array Slot), lv_has ls 6 [(0, .ref (tad θ 3)), (1, .int x1), (2, .int x2), (3, .int x3)] → wd θ M H → va_S (tA θ) s.heap H locs → W p l e rm_X3_swap s m args below meth c H locs 0 0 (MQ below (qV θ M1) args s 0 0 (tA θ)) (F0 m 2 ls [])
def J_X3_swap_0 (θ : Th) (p : Program) (l : Launch) (e : Env) (s : State) (m : MethodId) (args : Array Value) (below : List Frame) (meth : Method) (c : Code) (g : Int32 → Int32 → Mm → Option Mm) : Prop := ∀ (x1 : Int32) (x2 : Int32) (M : Mm) (M1 : Mm), g x1 x2 M = some M1 → ∀ (H : Heap) (locs : List Loc) (ls : Array Slot), lv_has ls 6 [(0, .ref (tad θ 3)), (1, .int x1), (2, .int x2)] → wd θ M H → va_S (tA θ) s.heap H locs → W p l e rm_X3_swap s m args below meth c H locs 0 0 (MQ below (qV θ M1) args s 0 0 (tA θ)) (F0 m 0 ls [])
def F_X3_swap_2 (N : Nat) (k2 : Int32 → Int32 → Int32 → Mm → Option Mm) (x1 : Int32) (x2 : Int32) (x3 : Int32) (M : Mm) : Option Mm :=
  (if (M.1 7) < x3 then some M else (rL M 1 ((6 * x1) + x3)).bind fun v20 => (rL M 1 ((6 * x2) + x3)).bind fun v43 => (wL M 1 ((6 * x1) + x3) v43).bind fun M44 => (wL M44 1 ((6 * x2) + x3) v20).bind fun M57 => k2 x1 x2 (x3 + 1) M57)
abbrev b_X3_swap_2 (N : Nat) : Int32 → Int32 → Int32 → Mm → Option Mm := lpT (fun _ _ _ _ => none) (F_X3_swap_2 N) N
set_option maxRecDepth 100000 in
set_option maxHeartbeats 4000000 in
theorem tF_X3_swap_2 {θ : Th} {p : Program} {l : Launch} {e : Env} {s : State} {m : MethodId} {args : Array Value} {below : List Frame} {meth : Method} {c : Code} (C : Cx θ p s m args meth c cX3_swap 6 RX3 none) (N : Nat) {k2 : Int32 → Int32 → Int32 → Mm → Option Mm} (hk2 : J_X3_swap_2 θ p l e s m args below meth c k2) : J_X3_swap_2 θ p l e s m args below meth c (F_X3_swap_2 N k2) := by
  intro x1 x2 x3 M M1 h H locs ls hl hw hS
  unfold F_X3_swap_2 at h
  refine lv_iload_n C.1 C.2.1 dX3_swap_2 rfl (lv_at hl 3 rfl) ?_
  refine lv_aload_n C.1 C.2.1 dX3_swap_3 rfl (lv_at hl 0 rfl) ?_
  refine gf_X3_width C hw w_533 dX3_swap_4 ?_
  refine lv_icmp_gt (tgt := 64) C.1 C.2.1 dX3_swap_7 (by decide) (fun c7 => ?_) (fun c7 => ?_)
  · have h := it_t c7 h
    cases h
    exact k_retv C hw hS dX3_swap_64
  · have h := it_f c7 h
    refine lv_aload_n C.1 C.2.1 dX3_swap_10 rfl (lv_at hl 0 rfl) ?_
    refine gf_X3_matrix C hw w_538 dX3_swap_11 ?_
    refine lv_bipush (v := 6) C.1 C.2.1 dX3_swap_14 (by decide) ?_
    refine lv_iload_n C.1 C.2.1 dX3_swap_16 rfl (lv_at hl 1 rfl) ?_
    refine lv_imul C.1 C.2.1 dX3_swap_17 ?_
    refine lv_iload_n C.1 C.2.1 dX3_swap_18 rfl (lv_at hl 3 rfl) ?_
    refine lv_iadd C.1 C.2.1 dX3_swap_19 ?_
    obtain ⟨v20, h20, h⟩ := bind_s h
    refine k_lald C hw 1 h20 dX3_swap_20 ?_
    refine lv_lstore (lv' := [(4, .long v20), (0, .ref (tad θ 3)), (1, .int x1), (2, .int x2), (3, .int x3)]) C.1 C.2.1 dX3_swap_21 hl (by decide) rfl (fun ls hl => ?_)
    refine lv_aload_n C.1 C.2.1 dX3_swap_23 rfl (lv_at hl 1 rfl) ?_
    refine gf_X3_matrix C hw w_538 dX3_swap_24 ?_
    refine lv_bipush (v := 6) C.1 C.2.1 dX3_swap_27 (by decide) ?_
    refine lv_iload_n C.1 C.2.1 dX3_swap_29 rfl (lv_at hl 2 rfl) ?_
    refine lv_imul C.1 C.2.1 dX3_swap_30 ?_
    refine lv_iload_n C.1 C.2.1 dX3_swap_31 rfl (lv_at hl 4 rfl) ?_
    refine lv_iadd C.1 C.2.1 dX3_swap_32 ?_
    refine lv_aload_n C.1 C.2.1 dX3_swap_33 rfl (lv_at hl 1 rfl) ?_
    refine gf_X3_matrix C hw w_538 dX3_swap_34 ?_
    refine lv_bipush (v := 6) C.1 C.2.1 dX3_swap_37 (by decide) ?_
    refine lv_iload_n C.1 C.2.1 dX3_swap_39 rfl (lv_at hl 3 rfl) ?_
    refine lv_imul C.1 C.2.1 dX3_swap_40 ?_
    refine lv_iload_n C.1 C.2.1 dX3_swap_41 rfl (lv_at hl 4 rfl) ?_
    refine lv_iadd C.1 C.2.1 dX3_swap_42 ?_
    obtain ⟨v43, h43, h⟩ := bind_s h
    refine k_lald C hw 1 h43 dX3_swap_43 ?_
    obtain ⟨M44, h44, h⟩ := bind_s h
    refine k_last C hw hS 1 h44 dX3_swap_44 (fun H locs hw hS => ?_)
    refine lv_aload_n C.1 C.2.1 dX3_swap_45 rfl (lv_at hl 1 rfl) ?_
    refine gf_X3_matrix C hw w_538 dX3_swap_46 ?_
    refine lv_bipush (v := 6) C.1 C.2.1 dX3_swap_49 (by decide) ?_
    refine lv_iload_n C.1 C.2.1 dX3_swap_51 rfl (lv_at hl 3 rfl) ?_
    refine lv_imul C.1 C.2.1 dX3_swap_52 ?_
    refine lv_iload_n C.1 C.2.1 dX3_swap_53 rfl (lv_at hl 4 rfl) ?_
    refine lv_iadd C.1 C.2.1 dX3_swap_54 ?_
    refine lv_lload C.1 C.2.1 dX3_swap_55 (lv_at hl 0 rfl) ?_
    obtain ⟨M57, h57, h⟩ := bind_s h
    refine k_last C hw hS 1 h57 dX3_swap_57 (fun H locs hw hS => ?_)
    refine lv_iinc (v := (x3 + 1)) (lv' := [(3, .int (x3 + 1)), (4, .long v20), (0, .ref (tad θ 3)), (1, .int x1), (2, .int x2)]) C.1 C.2.1 dX3_swap_58 hl (k := 4) rfl rfl (by decide) rfl (fun ls hl => ?_)
    refine lv_goto (tgt := 2) C.1 C.2.1 dX3_swap_61 (by decide) ?_
    exact hk2 _ _ _ _ _ h _ _ ls (lv_sub hl [2, 3, 4, 0] rfl) hw hS
theorem t_X3_swap_2 {θ : Th} {p : Program} {l : Launch} {e : Env} {s : State} {m : MethodId} {args : Array Value} {below : List Frame} {meth : Method} {c : Code} (C : Cx θ p s m args meth c cX3_swap 6 RX3 none) (N : Nat) : J_X3_swap_2 θ p l e s m args below meth c (b_X3_swap_2 N) := lpT_ind (J := J_X3_swap_2 θ p l e s m args below meth c) (fun _ _ _ _ _ h => by cases h) (fun k hk => tF_X3_swap_2 C N hk) N
def b_X3_swap_0 (N : Nat) (x1 : Int32) (x2 : Int32) (M : Mm) : Option Mm :=
  b_X3_swap_2 N x1 x2 0 M
set_option maxRecDepth 100000 in
set_option maxHeartbeats 4000000 in
theorem t_X3_swap_0 {θ : Th} {p : Program} {l : Launch} {e : Env} {s : State} {m : MethodId} {args : Array Value} {below : List Frame} {meth : Method} {c : Code} (C : Cx θ p s m args meth c cX3_swap 6 RX3 none) (N : Nat) : J_X3_swap_0 θ p l e s m args below meth c (b_X3_swap_0 N) := by
  intro x1 x2 M M1 h H locs ls hl hw hS
  unfold b_X3_swap_0 at h
  refine lv_iconst (v := 0) C.1 C.2.1 dX3_swap_0 (by decide) ?_
  refine lv_istore_n (lv' := [(3, .int 0), (0, .ref (tad θ 3)), (1, .int x1), (2, .int x2)]) C.1 C.2.1 dX3_swap_1 rfl hl (by decide) rfl (fun ls hl => ?_)
  exact t_X3_swap_2 C N _ _ _ _ _ h _ _ ls (lv_sub hl [1, 2, 3, 0] rfl) hw hS
def f_X3_swap (N : Nat) (x1 : Int32) (x2 : Int32) (M : Mm) : Option Mm := b_X3_swap_0 N x1 x2 M
set_option maxRecDepth 100000 in
theorem c_X3_swap (θ : Th) (l : Launch) (N : Nat) {x1 : Int32} {x2 : Int32} {M : Mm} {M1 : Mm} (h : f_X3_swap N x1 x2 M = some M1) : Met l yX3_swap (gws yX3_swap cX3_swap 6 none) rm_X3_swap (va_Pc [.ref (tad θ 3), .int x1, .int x2] (wU θ M)) (qV θ M1) 0 0 (tA θ) :=
  k_met (by decide +kernel) (Nat.le_of_ble_eq_true rfl) (fun p e s m args below meth c C ls hl hw => t_X3_swap_0 C N _ _ _ _ h _ _ ls (lv_sub hl [0, 1, 2] rfl) hw va_S.rf)
abbrev rm_X3_clear : Room := { frames := 0, cells := 0, slots := 0, locals := 0 }
def J_X3_clear_40 (θ : Th) (p : Program) (l : Launch) (e : Env) (s : State) (m : MethodId) (args : Array Value) (below : List Frame) (meth : Method) (c : Code) (g : Int32 → Int64 → Int64 → Int32 → Int64 → Int32 → Mm → Option Mm) : Prop := ∀ (x1 : Int32) (x2 : Int64) (x4 : Int64) (x6 : Int32) (x7 : Int64) (x9 : Int32) (M : Mm) (M1 : Mm), g x1 x2 x4 x6 x7 x9 M = some M1 → ∀ (H : Heap) (locs : List Loc) (ls : Array Slot), lv_has ls 10 [(0, .ref (tad θ 3)), (1, .int x1), (2, .long x2), (4, .long x4), (6, .int x6), (7, .long x7), (9, .int x9)] → wd θ M H → va_S (tA θ) s.heap H locs → W p l e rm_X3_clear s m args below meth c H locs 0 0 (MQ below (qV θ M1) args s 0 0 (tA θ)) (F0 m 40 ls [])
def J_X3_clear_14 (θ : Th) (p : Program) (l : Launch) (e : Env) (s : State) (m : MethodId) (args : Array Value) (below : List Frame) (meth : Method) (c : Code) (g : Int32 → Int64 → Int64 → Int32 → Mm → Option Mm) : Prop := ∀ (x1 : Int32) (x2 : Int64) (x4 : Int64) (x6 : Int32) (M : Mm) (M1 : Mm), g x1 x2 x4 x6 M = some M1 → ∀ (H : Heap) (locs : List Loc) (ls : Array Slot), lv_has ls 10 [(0, .ref (tad θ 3)), (1, .int x1), (2, .long x2), (4, .long x4), (6, .int x6)] → wd θ M H → va_S (tA θ) s.heap H locs → W p l e rm_X3_clear s m args below meth c H locs 0 0 (MQ below (qV θ M1) args s 0 0 (tA θ)) (F0 m 14 ls [])
def J_X3_clear_0 (θ : Th) (p : Program) (l : Launch) (e : Env) (s : State) (m : MethodId) (args : Array Value) (below : List Frame) (meth : Method) (c : Code) (g : Int32 → Int64 → Mm → Option Mm) : Prop := ∀ (x1 : Int32) (x2 : Int64) (M : Mm) (M1 : Mm), g x1 x2 M = some M1 → ∀ (H : Heap) (locs : List Loc) (ls : Array Slot), lv_has ls 10 [(0, .ref (tad θ 3)), (1, .int x1), (2, .long x2)] → wd θ M H → va_S (tA θ) s.heap H locs → W p l e rm_X3_clear s m args below meth c H locs 0 0 (MQ below (qV θ M1) args s 0 0 (tA θ)) (F0 m 0 ls [])
def F_X3_clear_40 (N : Nat) (k14 : Int32 → Int64 → Int64 → Int32 → Mm → Option Mm) (k40 : Int32 → Int64 → Int64 → Int32 → Int64 → Int32 → Mm → Option Mm) (x1 : Int32) (x2 : Int64) (x4 : Int64) (x6 : Int32) (x7 : Int64) (x9 : Int32) (M : Mm) : Option Mm :=
  (if (M.1 7) < x9 then k14 x1 x2 x4 (x6 + 1) M else (if x6 = x1 then k14 x1 x2 x4 (x6 + 1) M else (rL M 1 ((6 * x6) + x9)).bind fun v81 => (rL M 1 ((6 * x1) + x9)).bind fun v96 => (if (x2 : Int64) = 0 then none else (wL M 1 ((6 * x6) + x9) (((x4 * v81) - (x7 * v96)) / x2)).bind fun M101 => k40 x1 x2 x4 x6 x7 (x9 + 1) M101)))
abbrev b_X3_clear_40 (N : Nat) (k14 : Int32 → Int64 → Int64 → Int32 → Mm → Option Mm) : Int32 → Int64 → Int64 → Int32 → Int64 → Int32 → Mm → Option Mm := lpT (fun _ _ _ _ _ _ _ => none) (F_X3_clear_40 N k14) N
set_option maxRecDepth 100000 in
set_option maxHeartbeats 4000000 in
theorem tF_X3_clear_40 {θ : Th} {p : Program} {l : Launch} {e : Env} {s : State} {m : MethodId} {args : Array Value} {below : List Frame} {meth : Method} {c : Code} (C : Cx θ p s m args meth c cX3_clear 10 RX3 none) (N : Nat) {k14 : Int32 → Int64 → Int64 → Int32 → Mm → Option Mm} (hk14 : J_X3_clear_14 θ p l e s m args below meth c k14) {k40 : Int32 → Int64 → Int64 → Int32 → Int64 → Int32 → Mm → Option Mm} (hk40 : J_X3_clear_40 θ p l e s m args below meth c k40) : J_X3_clear_40 θ p l e s m args below meth c (F_X3_clear_40 N k14 k40) := by
  intro x1 x2 x4 x6 x7 x9 M M1 h H locs ls hl hw hS
  unfold F_X3_clear_40 at h
  refine lv_iload C.1 C.2.1 dX3_clear_40 (lv_at hl 6 rfl) ?_
  refine lv_aload_n C.1 C.2.1 dX3_clear_42 rfl (lv_at hl 0 rfl) ?_
  refine gf_X3_width C hw w_533 dX3_clear_43 ?_
  refine lv_icmp_gt (tgt := 108) C.1 C.2.1 dX3_clear_46 (by decide) (fun c46 => ?_) (fun c46 => ?_)
  · have h := it_t c46 h
    refine lv_iinc (v := (x6 + 1)) (lv' := [(6, .int (x6 + 1)), (0, .ref (tad θ 3)), (1, .int x1), (2, .long x2), (4, .long x4), (7, .long x7), (9, .int x9)]) C.1 C.2.1 dX3_clear_108 hl (k := 4) rfl rfl (by decide) rfl (fun ls hl => ?_)
    refine lv_goto (tgt := 14) C.1 C.2.1 dX3_clear_111 (by decide) ?_
    exact hk14 _ _ _ _ _ _ h _ _ ls (lv_sub hl [1, 2, 3, 4, 0] rfl) hw hS
  · have h := it_f c46 h
    refine lv_iload C.1 C.2.1 dX3_clear_49 (lv_at hl 4 rfl) ?_
    refine lv_iload_n C.1 C.2.1 dX3_clear_51 rfl (lv_at hl 1 rfl) ?_
    refine lv_icmp_eq (tgt := 108) C.1 C.2.1 dX3_clear_52 (by decide) (fun c52 => ?_) (fun c52 => ?_)
    · have h := it_t c52 h
      refine lv_iinc (v := (x6 + 1)) (lv' := [(6, .int (x6 + 1)), (0, .ref (tad θ 3)), (1, .int x1), (2, .long x2), (4, .long x4), (7, .long x7), (9, .int x9)]) C.1 C.2.1 dX3_clear_108 hl (k := 4) rfl rfl (by decide) rfl (fun ls hl => ?_)
      refine lv_goto (tgt := 14) C.1 C.2.1 dX3_clear_111 (by decide) ?_
      exact hk14 _ _ _ _ _ _ h _ _ ls (lv_sub hl [1, 2, 3, 4, 0] rfl) hw hS
    · have h := it_f c52 h
      refine lv_aload_n C.1 C.2.1 dX3_clear_55 rfl (lv_at hl 0 rfl) ?_
      refine gf_X3_matrix C hw w_538 dX3_clear_56 ?_
      refine lv_bipush (v := 6) C.1 C.2.1 dX3_clear_59 (by decide) ?_
      refine lv_iload C.1 C.2.1 dX3_clear_61 (lv_at hl 4 rfl) ?_
      refine lv_imul C.1 C.2.1 dX3_clear_63 ?_
      refine lv_iload C.1 C.2.1 dX3_clear_64 (lv_at hl 6 rfl) ?_
      refine lv_iadd C.1 C.2.1 dX3_clear_66 ?_
      refine lv_lload C.1 C.2.1 dX3_clear_67 (lv_at hl 3 rfl) ?_
      refine lv_aload_n C.1 C.2.1 dX3_clear_69 rfl (lv_at hl 0 rfl) ?_
      refine gf_X3_matrix C hw w_538 dX3_clear_70 ?_
      refine lv_bipush (v := 6) C.1 C.2.1 dX3_clear_73 (by decide) ?_
      refine lv_iload C.1 C.2.1 dX3_clear_75 (lv_at hl 4 rfl) ?_
      refine lv_imul C.1 C.2.1 dX3_clear_77 ?_
      refine lv_iload C.1 C.2.1 dX3_clear_78 (lv_at hl 6 rfl) ?_
      refine lv_iadd C.1 C.2.1 dX3_clear_80 ?_
      obtain ⟨v81, h81, h⟩ := bind_s h
      refine k_lald C hw 1 h81 dX3_clear_81 ?_
      refine lv_lmul C.1 C.2.1 dX3_clear_82 ?_
      refine lv_lload C.1 C.2.1 dX3_clear_83 (lv_at hl 5 rfl) ?_
      refine lv_aload_n C.1 C.2.1 dX3_clear_85 rfl (lv_at hl 0 rfl) ?_
      refine gf_X3_matrix C hw w_538 dX3_clear_86 ?_
      refine lv_bipush (v := 6) C.1 C.2.1 dX3_clear_89 (by decide) ?_
      refine lv_iload_n C.1 C.2.1 dX3_clear_91 rfl (lv_at hl 1 rfl) ?_
      refine lv_imul C.1 C.2.1 dX3_clear_92 ?_
      refine lv_iload C.1 C.2.1 dX3_clear_93 (lv_at hl 6 rfl) ?_
      refine lv_iadd C.1 C.2.1 dX3_clear_95 ?_
      obtain ⟨v96, h96, h⟩ := bind_s h
      refine k_lald C hw 1 h96 dX3_clear_96 ?_
      refine lv_lmul C.1 C.2.1 dX3_clear_97 ?_
      refine lv_lsub C.1 C.2.1 dX3_clear_98 ?_
      refine lv_lload_n C.1 C.2.1 dX3_clear_99 rfl (lv_at hl 2 rfl) ?_
      obtain ⟨hn100, h⟩ := it_n h
      refine lv_ldiv C.1 C.2.1 dX3_clear_100 hn100 ?_
      obtain ⟨M101, h101, h⟩ := bind_s h
      refine k_last C hw hS 1 h101 dX3_clear_101 (fun H locs hw hS => ?_)
      refine lv_iinc (v := (x9 + 1)) (lv' := [(9, .int (x9 + 1)), (0, .ref (tad θ 3)), (1, .int x1), (2, .long x2), (4, .long x4), (6, .int x6), (7, .long x7)]) C.1 C.2.1 dX3_clear_102 hl (k := 6) rfl rfl (by decide) rfl (fun ls hl => ?_)
      refine lv_goto (tgt := 40) C.1 C.2.1 dX3_clear_105 (by decide) ?_
      exact hk40 _ _ _ _ _ _ _ _ h _ _ ls (lv_sub hl [1, 2, 3, 4, 5, 6, 0] rfl) hw hS
theorem t_X3_clear_40 {θ : Th} {p : Program} {l : Launch} {e : Env} {s : State} {m : MethodId} {args : Array Value} {below : List Frame} {meth : Method} {c : Code} (C : Cx θ p s m args meth c cX3_clear 10 RX3 none) (N : Nat) {k14 : Int32 → Int64 → Int64 → Int32 → Mm → Option Mm} (hk14 : J_X3_clear_14 θ p l e s m args below meth c k14) : J_X3_clear_40 θ p l e s m args below meth c (b_X3_clear_40 N k14) := lpT_ind (J := J_X3_clear_40 θ p l e s m args below meth c) (fun _ _ _ _ _ _ _ _ h => by cases h) (fun k hk => tF_X3_clear_40 C N hk14 hk) N
def F_X3_clear_14 (N : Nat) (k14 : Int32 → Int64 → Int64 → Int32 → Mm → Option Mm) (x1 : Int32) (x2 : Int64) (x4 : Int64) (x6 : Int32) (M : Mm) : Option Mm :=
  (if (M.1 7) ≤ x6 then some M else (rL M 1 ((6 * x6) + x1)).bind fun v34 => b_X3_clear_40 N k14 x1 x2 x4 x6 v34 0 M)
abbrev b_X3_clear_14 (N : Nat) : Int32 → Int64 → Int64 → Int32 → Mm → Option Mm := lpT (fun _ _ _ _ _ => none) (F_X3_clear_14 N) N
set_option maxRecDepth 100000 in
set_option maxHeartbeats 4000000 in
theorem tF_X3_clear_14 {θ : Th} {p : Program} {l : Launch} {e : Env} {s : State} {m : MethodId} {args : Array Value} {below : List Frame} {meth : Method} {c : Code} (C : Cx θ p s m args meth c cX3_clear 10 RX3 none) (N : Nat) {k14 : Int32 → Int64 → Int64 → Int32 → Mm → Option Mm} (hk14 : J_X3_clear_14 θ p l e s m args below meth c k14) : J_X3_clear_14 θ p l e s m args below meth c (F_X3_clear_14 N k14) := by
  intro x1 x2 x4 x6 M M1 h H locs ls hl hw hS
  unfold F_X3_clear_14 at h
  refine lv_iload C.1 C.2.1 dX3_clear_14 (lv_at hl 4 rfl) ?_
  refine lv_aload_n C.1 C.2.1 dX3_clear_16 rfl (lv_at hl 0 rfl) ?_
  refine gf_X3_width C hw w_533 dX3_clear_17 ?_
  refine lv_icmp_ge (tgt := 114) C.1 C.2.1 dX3_clear_20 (by decide) (fun c20 => ?_) (fun c20 => ?_)
  · have h := it_t c20 h
    cases h
    exact k_retv C hw hS dX3_clear_114
  · have h := it_f c20 h
    refine lv_aload_n C.1 C.2.1 dX3_clear_23 rfl (lv_at hl 0 rfl) ?_
    refine gf_X3_matrix C hw w_538 dX3_clear_24 ?_
    refine lv_bipush (v := 6) C.1 C.2.1 dX3_clear_27 (by decide) ?_
    refine lv_iload C.1 C.2.1 dX3_clear_29 (lv_at hl 4 rfl) ?_
    refine lv_imul C.1 C.2.1 dX3_clear_31 ?_
    refine lv_iload_n C.1 C.2.1 dX3_clear_32 rfl (lv_at hl 1 rfl) ?_
    refine lv_iadd C.1 C.2.1 dX3_clear_33 ?_
    obtain ⟨v34, h34, h⟩ := bind_s h
    refine k_lald C hw 1 h34 dX3_clear_34 ?_
    refine lv_lstore (lv' := [(7, .long v34), (0, .ref (tad θ 3)), (1, .int x1), (2, .long x2), (4, .long x4), (6, .int x6)]) C.1 C.2.1 dX3_clear_35 hl (by decide) rfl (fun ls hl => ?_)
    refine lv_iconst (v := 0) C.1 C.2.1 dX3_clear_37 (by decide) ?_
    refine lv_istore (lv' := [(9, .int 0), (7, .long v34), (0, .ref (tad θ 3)), (1, .int x1), (2, .long x2), (4, .long x4), (6, .int x6)]) C.1 C.2.1 dX3_clear_38 hl (by decide) rfl (fun ls hl => ?_)
    exact t_X3_clear_40 C N hk14 _ _ _ _ _ _ _ _ h _ _ ls (lv_sub hl [2, 3, 4, 5, 6, 1, 0] rfl) hw hS
theorem t_X3_clear_14 {θ : Th} {p : Program} {l : Launch} {e : Env} {s : State} {m : MethodId} {args : Array Value} {below : List Frame} {meth : Method} {c : Code} (C : Cx θ p s m args meth c cX3_clear 10 RX3 none) (N : Nat) : J_X3_clear_14 θ p l e s m args below meth c (b_X3_clear_14 N) := lpT_ind (J := J_X3_clear_14 θ p l e s m args below meth c) (fun _ _ _ _ _ _ h => by cases h) (fun k hk => tF_X3_clear_14 C N hk) N
def b_X3_clear_0 (N : Nat) (x1 : Int32) (x2 : Int64) (M : Mm) : Option Mm :=
  (rL M 1 (7 * x1)).bind fun v8 => b_X3_clear_14 N x1 x2 v8 0 M
set_option maxRecDepth 100000 in
set_option maxHeartbeats 4000000 in
theorem t_X3_clear_0 {θ : Th} {p : Program} {l : Launch} {e : Env} {s : State} {m : MethodId} {args : Array Value} {below : List Frame} {meth : Method} {c : Code} (C : Cx θ p s m args meth c cX3_clear 10 RX3 none) (N : Nat) : J_X3_clear_0 θ p l e s m args below meth c (b_X3_clear_0 N) := by
  intro x1 x2 M M1 h H locs ls hl hw hS
  unfold b_X3_clear_0 at h
  refine lv_aload_n C.1 C.2.1 dX3_clear_0 rfl (lv_at hl 0 rfl) ?_
  refine gf_X3_matrix C hw w_538 dX3_clear_1 ?_
  refine lv_bipush (v := 7) C.1 C.2.1 dX3_clear_4 (by decide) ?_
  refine lv_iload_n C.1 C.2.1 dX3_clear_6 rfl (lv_at hl 1 rfl) ?_
  refine lv_imul C.1 C.2.1 dX3_clear_7 ?_
  obtain ⟨v8, h8, h⟩ := bind_s h
  refine k_lald C hw 1 h8 dX3_clear_8 ?_
  refine lv_lstore (lv' := [(4, .long v8), (0, .ref (tad θ 3)), (1, .int x1), (2, .long x2)]) C.1 C.2.1 dX3_clear_9 hl (by decide) rfl (fun ls hl => ?_)
  refine lv_iconst (v := 0) C.1 C.2.1 dX3_clear_11 (by decide) ?_
  refine lv_istore (lv' := [(6, .int 0), (4, .long v8), (0, .ref (tad θ 3)), (1, .int x1), (2, .long x2)]) C.1 C.2.1 dX3_clear_12 hl (by decide) rfl (fun ls hl => ?_)
  exact t_X3_clear_14 C N _ _ _ _ _ _ h _ _ ls (lv_sub hl [2, 3, 4, 1, 0] rfl) hw hS
def f_X3_clear (N : Nat) (x1 : Int32) (x2 : Int64) (M : Mm) : Option Mm := b_X3_clear_0 N x1 x2 M
set_option maxRecDepth 100000 in
theorem c_X3_clear (θ : Th) (l : Launch) (N : Nat) {x1 : Int32} {x2 : Int64} {M : Mm} {M1 : Mm} (h : f_X3_clear N x1 x2 M = some M1) : Met l yX3_clear (gws yX3_clear cX3_clear 10 none) rm_X3_clear (va_Pc [.ref (tad θ 3), .int x1, .long x2] (wU θ M)) (qV θ M1) 0 0 (tA θ) :=
  k_met (by decide +kernel) (Nat.le_of_ble_eq_true rfl) (fun p e s m args below meth c C ls hl hw => t_X3_clear_0 C N _ _ _ _ h _ _ ls (lv_sub hl [0, 1, 2] rfl) hw va_S.rf)
abbrev rm_X3_solved : Room := { frames := 1, cells := 0, slots := 0, locals := 29 }
def J_X3_solved_47 (θ : Th) (p : Program) (l : Launch) (e : Env) (s : State) (m : MethodId) (args : Array Value) (below : List Frame) (meth : Method) (c : Code) (g : Int64 → Int32 → Int32 → Mm → Option (Int64 × Mm)) : Prop := ∀ (x1 : Int64) (x3 : Int32) (x4 : Int32) (M : Mm) (r : Int64) (M1 : Mm), g x1 x3 x4 M = some (r, M1) → ∀ (H : Heap) (locs : List Loc) (ls : Array Slot), lv_has ls 5 [(0, .ref (tad θ 3)), (1, .long x1), (3, .int x3), (4, .int x4)] → wd θ M H → va_S (tA θ) s.heap H locs → W p l e rm_X3_solved s m args below meth c H locs 0 0 (MQ below (qL θ r M1) args s 0 0 (tA θ)) (F0 m 47 ls [])
def J_X3_solved_15 (θ : Th) (p : Program) (l : Launch) (e : Env) (s : State) (m : MethodId) (args : Array Value) (below : List Frame) (meth : Method) (c : Code) (g : Int64 → Int32 → Int32 → Mm → Option (Int64 × Mm)) : Prop := ∀ (x1 : Int64) (x3 : Int32) (x4 : Int32) (M : Mm) (r : Int64) (M1 : Mm), g x1 x3 x4 M = some (r, M1) → ∀ (H : Heap) (locs : List Loc) (ls : Array Slot), lv_has ls 5 [(0, .ref (tad θ 3)), (1, .long x1), (3, .int x3), (4, .int x4)] → wd θ M H → va_S (tA θ) s.heap H locs → W p l e rm_X3_solved s m args below meth c H locs 0 0 (MQ below (qL θ r M1) args s 0 0 (tA θ)) (F0 m 15 ls [])
def J_X3_solved_4 (θ : Th) (p : Program) (l : Launch) (e : Env) (s : State) (m : MethodId) (args : Array Value) (below : List Frame) (meth : Method) (c : Code) (g : Int64 → Int32 → Mm → Option (Int64 × Mm)) : Prop := ∀ (x1 : Int64) (x3 : Int32) (M : Mm) (r : Int64) (M1 : Mm), g x1 x3 M = some (r, M1) → ∀ (H : Heap) (locs : List Loc) (ls : Array Slot), lv_has ls 5 [(0, .ref (tad θ 3)), (1, .long x1), (3, .int x3)] → wd θ M H → va_S (tA θ) s.heap H locs → W p l e rm_X3_solved s m args below meth c H locs 0 0 (MQ below (qL θ r M1) args s 0 0 (tA θ)) (F0 m 4 ls [])
def J_X3_solved_0 (θ : Th) (p : Program) (l : Launch) (e : Env) (s : State) (m : MethodId) (args : Array Value) (below : List Frame) (meth : Method) (c : Code) (g : Mm → Option (Int64 × Mm)) : Prop := ∀ (M : Mm) (r : Int64) (M1 : Mm), g M = some (r, M1) → ∀ (H : Heap) (locs : List Loc) (ls : Array Slot), lv_has ls 5 [(0, .ref (tad θ 3))] → wd θ M H → va_S (tA θ) s.heap H locs → W p l e rm_X3_solved s m args below meth c H locs 0 0 (MQ below (qL θ r M1) args s 0 0 (tA θ)) (F0 m 0 ls [])
def b_X3_solved_47 (N : Nat) (k4 : Int64 → Int32 → Mm → Option (Int64 × Mm)) (x1 : Int64) (x3 : Int32) (x4 : Int32) (M : Mm) : Option (Int64 × Mm) :=
  (if x4 = (M.1 7) then some (0, M) else (f_X3_swap N x3 x4 M).bind fun M62 => (f_X3_clear N x3 x1 M62).bind fun M68 => (rL M68 1 (7 * x3)).bind fun v79 => k4 v79 (x3 + 1) M68)
set_option maxRecDepth 100000 in
set_option maxHeartbeats 4000000 in
theorem t_X3_solved_47 {θ : Th} {p : Program} {l : Launch} {e : Env} {s : State} {m : MethodId} {args : Array Value} {below : List Frame} {meth : Method} {c : Code} (C : Cx θ p s m args meth c cX3_solved 5 RX3 (some .long)) (N : Nat) {k4 : Int64 → Int32 → Mm → Option (Int64 × Mm)} (hk4 : J_X3_solved_4 θ p l e s m args below meth c k4) : J_X3_solved_47 θ p l e s m args below meth c (b_X3_solved_47 N k4) := by
  intro x1 x3 x4 M r M1 h H locs ls hl hw hS
  unfold b_X3_solved_47 at h
  refine lv_iload C.1 C.2.1 dX3_solved_47 (lv_at hl 3 rfl) ?_
  refine lv_aload_n C.1 C.2.1 dX3_solved_49 rfl (lv_at hl 0 rfl) ?_
  refine gf_X3_width C hw w_533 dX3_solved_50 ?_
  refine lv_icmp_ne (tgt := 58) C.1 C.2.1 dX3_solved_53 (by decide) (fun c53 => ?_) (fun c53 => ?_)
  · have h := it_f c53 h
    refine lv_aload_n C.1 C.2.1 dX3_solved_58 rfl (lv_at hl 0 rfl) ?_
    refine lv_iload_n C.1 C.2.1 dX3_solved_59 rfl (lv_at hl 2 rfl) ?_
    refine lv_iload C.1 C.2.1 dX3_solved_60 (lv_at hl 3 rfl) ?_
    obtain ⟨M62, h62, h⟩ := bind_s h
    refine k_cv (k_runV (As := [.int x3, .int x4]) C cf_X3_swap cv_X3_swap w_657 rc3 (c_X3_swap θ l N h62) ⟨rfl, rfl, Nat.le_of_ble_eq_true rfl, Nat.le_of_ble_eq_true rfl⟩ rfl hl.1 rfl (Nat.le_of_ble_eq_true rfl) dX3_solved_62 ⟨Nat.zero_le _, Nat.zero_le _⟩ hw) hS (fun H locs hw hS => ?_)
    refine lv_aload_n C.1 C.2.1 dX3_solved_65 rfl (lv_at hl 0 rfl) ?_
    refine lv_iload_n C.1 C.2.1 dX3_solved_66 rfl (lv_at hl 2 rfl) ?_
    refine lv_lload_n C.1 C.2.1 dX3_solved_67 rfl (lv_at hl 1 rfl) ?_
    obtain ⟨M68, h68, h⟩ := bind_s h
    refine k_cv (k_runV (As := [.int x3, .long x1]) C cf_X3_clear cv_X3_clear w_661 rc3 (c_X3_clear θ l N h68) ⟨rfl, rfl, Nat.le_of_ble_eq_true rfl, Nat.le_of_ble_eq_true rfl⟩ rfl hl.1 rfl (Nat.le_of_ble_eq_true rfl) dX3_solved_68 ⟨Nat.zero_le _, Nat.zero_le _⟩ hw) hS (fun H locs hw hS => ?_)
    refine lv_aload_n C.1 C.2.1 dX3_solved_71 rfl (lv_at hl 0 rfl) ?_
    refine gf_X3_matrix C hw w_538 dX3_solved_72 ?_
    refine lv_bipush (v := 7) C.1 C.2.1 dX3_solved_75 (by decide) ?_
    refine lv_iload_n C.1 C.2.1 dX3_solved_77 rfl (lv_at hl 2 rfl) ?_
    refine lv_imul C.1 C.2.1 dX3_solved_78 ?_
    obtain ⟨v79, h79, h⟩ := bind_s h
    refine k_lald C hw 1 h79 dX3_solved_79 ?_
    refine lv_lstore_n (lv' := [(1, .long v79), (0, .ref (tad θ 3)), (3, .int x3), (4, .int x4)]) C.1 C.2.1 dX3_solved_80 rfl hl (by decide) rfl (fun ls hl => ?_)
    refine lv_iinc (v := (x3 + 1)) (lv' := [(3, .int (x3 + 1)), (1, .long v79), (0, .ref (tad θ 3)), (4, .int x4)]) C.1 C.2.1 dX3_solved_81 hl (k := 2) rfl rfl (by decide) rfl (fun ls hl => ?_)
    refine lv_goto (tgt := 4) C.1 C.2.1 dX3_solved_84 (by decide) ?_
    exact hk4 _ _ _ _ _ h _ _ ls (lv_sub hl [2, 1, 0] rfl) hw hS
  · have h := it_t c53 h
    refine lv_lconst (v := 0) C.1 C.2.1 dX3_solved_56 (by decide) ?_
    cases h
    exact k_retl C hw hS dX3_solved_57
def F_X3_solved_15 (N : Nat) (k4 : Int64 → Int32 → Mm → Option (Int64 × Mm)) (k15 : Int64 → Int32 → Int32 → Mm → Option (Int64 × Mm)) (x1 : Int64) (x3 : Int32) (x4 : Int32) (M : Mm) : Option (Int64 × Mm) :=
  (if (M.1 7) ≤ x4 then b_X3_solved_47 N k4 x1 x3 x4 M else (rL M 1 ((6 * x4) + x3)).bind fun v35 => (if (lg_cmp v35 0) = 0 then k15 x1 x3 (x4 + 1) M else b_X3_solved_47 N k4 x1 x3 x4 M))
abbrev b_X3_solved_15 (N : Nat) (k4 : Int64 → Int32 → Mm → Option (Int64 × Mm)) : Int64 → Int32 → Int32 → Mm → Option (Int64 × Mm) := lpT (fun _ _ _ _ => none) (F_X3_solved_15 N k4) N
set_option maxRecDepth 100000 in
set_option maxHeartbeats 4000000 in
theorem tF_X3_solved_15 {θ : Th} {p : Program} {l : Launch} {e : Env} {s : State} {m : MethodId} {args : Array Value} {below : List Frame} {meth : Method} {c : Code} (C : Cx θ p s m args meth c cX3_solved 5 RX3 (some .long)) (N : Nat) {k4 : Int64 → Int32 → Mm → Option (Int64 × Mm)} (hk4 : J_X3_solved_4 θ p l e s m args below meth c k4) {k15 : Int64 → Int32 → Int32 → Mm → Option (Int64 × Mm)} (hk15 : J_X3_solved_15 θ p l e s m args below meth c k15) : J_X3_solved_15 θ p l e s m args below meth c (F_X3_solved_15 N k4 k15) := by
  intro x1 x3 x4 M r M1 h H locs ls hl hw hS
  unfold F_X3_solved_15 at h
  refine lv_iload C.1 C.2.1 dX3_solved_15 (lv_at hl 3 rfl) ?_
  refine lv_aload_n C.1 C.2.1 dX3_solved_17 rfl (lv_at hl 0 rfl) ?_
  refine gf_X3_width C hw w_533 dX3_solved_18 ?_
  refine lv_icmp_ge (tgt := 47) C.1 C.2.1 dX3_solved_21 (by decide) (fun c21 => ?_) (fun c21 => ?_)
  · have h := it_t c21 h
    exact t_X3_solved_47 C N hk4 _ _ _ _ _ _ h _ _ ls (lv_sub hl [0, 1, 2, 3] rfl) hw hS
  · have h := it_f c21 h
    refine lv_aload_n C.1 C.2.1 dX3_solved_24 rfl (lv_at hl 0 rfl) ?_
    refine gf_X3_matrix C hw w_538 dX3_solved_25 ?_
    refine lv_bipush (v := 6) C.1 C.2.1 dX3_solved_28 (by decide) ?_
    refine lv_iload C.1 C.2.1 dX3_solved_30 (lv_at hl 3 rfl) ?_
    refine lv_imul C.1 C.2.1 dX3_solved_32 ?_
    refine lv_iload_n C.1 C.2.1 dX3_solved_33 rfl (lv_at hl 2 rfl) ?_
    refine lv_iadd C.1 C.2.1 dX3_solved_34 ?_
    obtain ⟨v35, h35, h⟩ := bind_s h
    refine k_lald C hw 1 h35 dX3_solved_35 ?_
    refine lv_lconst (v := 0) C.1 C.2.1 dX3_solved_36 (by decide) ?_
    refine W.lcmp C.1 C.2.1 dX3_solved_37 ?_
    refine lv_if_ne (tgt := 47) C.1 C.2.1 dX3_solved_38 (by decide) (fun c38 => ?_) (fun c38 => ?_)
    · have h := it_f c38 h
      exact t_X3_solved_47 C N hk4 _ _ _ _ _ _ h _ _ ls (lv_sub hl [0, 1, 2, 3] rfl) hw hS
    · have h := it_t c38 h
      refine lv_iinc (v := (x4 + 1)) (lv' := [(4, .int (x4 + 1)), (0, .ref (tad θ 3)), (1, .long x1), (3, .int x3)]) C.1 C.2.1 dX3_solved_41 hl (k := 3) rfl rfl (by decide) rfl (fun ls hl => ?_)
      refine lv_goto (tgt := 15) C.1 C.2.1 dX3_solved_44 (by decide) ?_
      exact hk15 _ _ _ _ _ _ h _ _ ls (lv_sub hl [1, 2, 3, 0] rfl) hw hS
theorem t_X3_solved_15 {θ : Th} {p : Program} {l : Launch} {e : Env} {s : State} {m : MethodId} {args : Array Value} {below : List Frame} {meth : Method} {c : Code} (C : Cx θ p s m args meth c cX3_solved 5 RX3 (some .long)) (N : Nat) {k4 : Int64 → Int32 → Mm → Option (Int64 × Mm)} (hk4 : J_X3_solved_4 θ p l e s m args below meth c k4) : J_X3_solved_15 θ p l e s m args below meth c (b_X3_solved_15 N k4) := lpT_ind (J := J_X3_solved_15 θ p l e s m args below meth c) (fun _ _ _ _ _ _ h => by cases h) (fun k hk => tF_X3_solved_15 C N hk4 hk) N
def F_X3_solved_4 (N : Nat) (k4 : Int64 → Int32 → Mm → Option (Int64 × Mm)) (x1 : Int64) (x3 : Int32) (M : Mm) : Option (Int64 × Mm) :=
  (if (M.1 7) ≤ x3 then some (x1, M) else b_X3_solved_15 N k4 x1 x3 x3 M)
abbrev b_X3_solved_4 (N : Nat) : Int64 → Int32 → Mm → Option (Int64 × Mm) := lpT (fun _ _ _ => none) (F_X3_solved_4 N) N
set_option maxRecDepth 100000 in
set_option maxHeartbeats 4000000 in
theorem tF_X3_solved_4 {θ : Th} {p : Program} {l : Launch} {e : Env} {s : State} {m : MethodId} {args : Array Value} {below : List Frame} {meth : Method} {c : Code} (C : Cx θ p s m args meth c cX3_solved 5 RX3 (some .long)) (N : Nat) {k4 : Int64 → Int32 → Mm → Option (Int64 × Mm)} (hk4 : J_X3_solved_4 θ p l e s m args below meth c k4) : J_X3_solved_4 θ p l e s m args below meth c (F_X3_solved_4 N k4) := by
  intro x1 x3 M r M1 h H locs ls hl hw hS
  unfold F_X3_solved_4 at h
  refine lv_iload_n C.1 C.2.1 dX3_solved_4 rfl (lv_at hl 2 rfl) ?_
  refine lv_aload_n C.1 C.2.1 dX3_solved_5 rfl (lv_at hl 0 rfl) ?_
  refine gf_X3_width C hw w_533 dX3_solved_6 ?_
  refine lv_icmp_ge (tgt := 87) C.1 C.2.1 dX3_solved_9 (by decide) (fun c9 => ?_) (fun c9 => ?_)
  · have h := it_t c9 h
    refine lv_lload_n C.1 C.2.1 dX3_solved_87 rfl (lv_at hl 1 rfl) ?_
    cases h
    exact k_retl C hw hS dX3_solved_88
  · have h := it_f c9 h
    refine lv_iload_n C.1 C.2.1 dX3_solved_12 rfl (lv_at hl 2 rfl) ?_
    refine lv_istore (lv' := [(4, .int x3), (0, .ref (tad θ 3)), (1, .long x1), (3, .int x3)]) C.1 C.2.1 dX3_solved_13 hl (by decide) rfl (fun ls hl => ?_)
    exact t_X3_solved_15 C N hk4 _ _ _ _ _ _ h _ _ ls (lv_sub hl [1, 2, 3, 0] rfl) hw hS
theorem t_X3_solved_4 {θ : Th} {p : Program} {l : Launch} {e : Env} {s : State} {m : MethodId} {args : Array Value} {below : List Frame} {meth : Method} {c : Code} (C : Cx θ p s m args meth c cX3_solved 5 RX3 (some .long)) (N : Nat) : J_X3_solved_4 θ p l e s m args below meth c (b_X3_solved_4 N) := lpT_ind (J := J_X3_solved_4 θ p l e s m args below meth c) (fun _ _ _ _ _ h => by cases h) (fun k hk => tF_X3_solved_4 C N hk) N
def b_X3_solved_0 (N : Nat) (M : Mm) : Option (Int64 × Mm) :=
  b_X3_solved_4 N 1 0 M
set_option maxRecDepth 100000 in
set_option maxHeartbeats 4000000 in
theorem t_X3_solved_0 {θ : Th} {p : Program} {l : Launch} {e : Env} {s : State} {m : MethodId} {args : Array Value} {below : List Frame} {meth : Method} {c : Code} (C : Cx θ p s m args meth c cX3_solved 5 RX3 (some .long)) (N : Nat) : J_X3_solved_0 θ p l e s m args below meth c (b_X3_solved_0 N) := by
  intro M r M1 h H locs ls hl hw hS
  unfold b_X3_solved_0 at h
  refine lv_lconst (v := 1) C.1 C.2.1 dX3_solved_0 (by decide) ?_
  refine lv_lstore_n (lv' := [(1, .long 1), (0, .ref (tad θ 3))]) C.1 C.2.1 dX3_solved_1 rfl hl (by decide) rfl (fun ls hl => ?_)
  refine lv_iconst (v := 0) C.1 C.2.1 dX3_solved_2 (by decide) ?_
  refine lv_istore_n (lv' := [(3, .int 0), (1, .long 1), (0, .ref (tad θ 3))]) C.1 C.2.1 dX3_solved_3 rfl hl (by decide) rfl (fun ls hl => ?_)
  exact t_X3_solved_4 C N _ _ _ _ _ h _ _ ls (lv_sub hl [2, 1, 0] rfl) hw hS
def f_X3_solved (N : Nat) (M : Mm) : Option (Int64 × Mm) := b_X3_solved_0 N M
set_option maxRecDepth 100000 in
theorem c_X3_solved (θ : Th) (l : Launch) (N : Nat) {M : Mm} {r : Int64} {M1 : Mm} (h : f_X3_solved N M = some (r, M1)) : Met l yX3_solved (gws yX3_solved cX3_solved 5 (some .long)) rm_X3_solved (va_Pc [.ref (tad θ 3)] (wU θ M)) (qL θ r M1) 0 0 (tA θ) :=
  k_met (by decide +kernel) (Nat.le_of_ble_eq_true rfl) (fun p e s m args below meth c C ls hl hw => t_X3_solved_0 C N _ _ _ h _ _ ls (lv_sub hl [0] rfl) hw va_S.rf)
abbrev rm_X3_holds : Room := { frames := 0, cells := 0, slots := 0, locals := 0 }
def J_X3_holds_22 (θ : Th) (p : Program) (l : Launch) (e : Env) (s : State) (m : MethodId) (args : Array Value) (below : List Frame) (meth : Method) (c : Code) (g : Int32 → Int64 → Int32 → Mm → Option (Int32 × Mm)) : Prop := ∀ (x1 : Int32) (x2 : Int64) (x4 : Int32) (M : Mm) (r : Int32) (M1 : Mm), g x1 x2 x4 M = some (r, M1) → ∀ (H : Heap) (locs : List Loc) (ls : Array Slot), lv_has ls 5 [(0, .ref (tad θ 3)), (1, .int x1), (2, .long x2), (4, .int x4)] → wd θ M H → va_S (tA θ) s.heap H locs → W p l e rm_X3_holds s m args below meth c H locs 0 0 (MQ below (qI θ r M1) args s 0 0 (tA θ)) (F0 m 22 ls [])
def J_X3_holds_0 (θ : Th) (p : Program) (l : Launch) (e : Env) (s : State) (m : MethodId) (args : Array Value) (below : List Frame) (meth : Method) (c : Code) (g : Int32 → Mm → Option (Int32 × Mm)) : Prop := ∀ (x1 : Int32) (M : Mm) (r : Int32) (M1 : Mm), g x1 M = some (r, M1) → ∀ (H : Heap) (locs : List Loc) (ls : Array Slot), lv_has ls 5 [(0, .ref (tad θ 3)), (1, .int x1)] → wd θ M H → va_S (tA θ) s.heap H locs → W p l e rm_X3_holds s m args below meth c H locs 0 0 (MQ below (qI θ r M1) args s 0 0 (tA θ)) (F0 m 0 ls [])
def F_X3_holds_22 (N : Nat) (k22 : Int32 → Int64 → Int32 → Mm → Option (Int32 × Mm)) (x1 : Int32) (x2 : Int64) (x4 : Int32) (M : Mm) : Option (Int32 × Mm) :=
  (if (M.1 7) ≤ x4 then (rA M 12 x1).bind fun v72 => (if v72 = 0 then (if 0 < (lg_cmp x2 0) then some (0, M) else some (1, M)) else (rA M 12 x1).bind fun v95 => (if v95 = 1 then (if (lg_cmp x2 0) = 0 then some (1, M) else some (0, M)) else (if (lg_cmp x2 0) < 0 then some (0, M) else some (1, M)))) else (rA M 11 ((5 * x1) + x4)).bind fun v42 => (rL M 2 ((5 * (M.1 9)) + x4)).bind fun v57 => k22 x1 (x2 + ((Int32.toInt64 v42) * v57)) (x4 + 1) M)
abbrev b_X3_holds_22 (N : Nat) : Int32 → Int64 → Int32 → Mm → Option (Int32 × Mm) := lpT (fun _ _ _ _ => none) (F_X3_holds_22 N) N
set_option maxRecDepth 100000 in
set_option maxHeartbeats 4000000 in
theorem tF_X3_holds_22 {θ : Th} {p : Program} {l : Launch} {e : Env} {s : State} {m : MethodId} {args : Array Value} {below : List Frame} {meth : Method} {c : Code} (C : Cx θ p s m args meth c cX3_holds 5 RX3 (some .boolean)) (N : Nat) {k22 : Int32 → Int64 → Int32 → Mm → Option (Int32 × Mm)} (hk22 : J_X3_holds_22 θ p l e s m args below meth c k22) : J_X3_holds_22 θ p l e s m args below meth c (F_X3_holds_22 N k22) := by
  intro x1 x2 x4 M r M1 h H locs ls hl hw hS
  unfold F_X3_holds_22 at h
  refine lv_iload C.1 C.2.1 dX3_holds_22 (lv_at hl 3 rfl) ?_
  refine lv_aload_n C.1 C.2.1 dX3_holds_24 rfl (lv_at hl 0 rfl) ?_
  refine gf_X3_width C hw w_533 dX3_holds_25 ?_
  refine lv_icmp_ge (tgt := 67) C.1 C.2.1 dX3_holds_28 (by decide) (fun c28 => ?_) (fun c28 => ?_)
  · have h := it_t c28 h
    refine lv_aload_n C.1 C.2.1 dX3_holds_67 rfl (lv_at hl 0 rfl) ?_
    refine gf_X3_boundSense C hw w_536 dX3_holds_68 ?_
    refine lv_iload_n C.1 C.2.1 dX3_holds_71 rfl (lv_at hl 1 rfl) ?_
    obtain ⟨v72, h72, h⟩ := bind_s h
    refine k_iald C hw 12 (by decide) h72 dX3_holds_72 ?_
    refine lv_if_ne (tgt := 90) C.1 C.2.1 dX3_holds_73 (by decide) (fun c73 => ?_) (fun c73 => ?_)
    · have h := it_f c73 h
      refine lv_aload_n C.1 C.2.1 dX3_holds_90 rfl (lv_at hl 0 rfl) ?_
      refine gf_X3_boundSense C hw w_536 dX3_holds_91 ?_
      refine lv_iload_n C.1 C.2.1 dX3_holds_94 rfl (lv_at hl 1 rfl) ?_
      obtain ⟨v95, h95, h⟩ := bind_s h
      refine k_iald C hw 12 (by decide) h95 dX3_holds_95 ?_
      refine lv_iconst (v := 1) C.1 C.2.1 dX3_holds_96 (by decide) ?_
      refine lv_icmp_ne (tgt := 114) C.1 C.2.1 dX3_holds_97 (by decide) (fun c97 => ?_) (fun c97 => ?_)
      · have h := it_f c97 h
        refine lv_lload_n C.1 C.2.1 dX3_holds_114 rfl (lv_at hl 2 rfl) ?_
        refine lv_lconst (v := 0) C.1 C.2.1 dX3_holds_115 (by decide) ?_
        refine W.lcmp C.1 C.2.1 dX3_holds_116 ?_
        refine lv_if_lt (tgt := 124) C.1 C.2.1 dX3_holds_117 (by decide) (fun c117 => ?_) (fun c117 => ?_)
        · have h := it_t c117 h
          refine lv_iconst (v := 0) C.1 C.2.1 dX3_holds_124 (by decide) ?_
          cases h
          exact k_retz C hw hS (Or.inl rfl) dX3_holds_125
        · have h := it_f c117 h
          refine lv_iconst (v := 1) C.1 C.2.1 dX3_holds_120 (by decide) ?_
          refine lv_goto (tgt := 125) C.1 C.2.1 dX3_holds_121 (by decide) ?_
          cases h
          exact k_retz C hw hS (Or.inr rfl) dX3_holds_125
      · have h := it_t c97 h
        refine lv_lload_n C.1 C.2.1 dX3_holds_100 rfl (lv_at hl 2 rfl) ?_
        refine lv_lconst (v := 0) C.1 C.2.1 dX3_holds_101 (by decide) ?_
        refine W.lcmp C.1 C.2.1 dX3_holds_102 ?_
        refine lv_if_ne (tgt := 110) C.1 C.2.1 dX3_holds_103 (by decide) (fun c103 => ?_) (fun c103 => ?_)
        · have h := it_f c103 h
          refine lv_iconst (v := 0) C.1 C.2.1 dX3_holds_110 (by decide) ?_
          refine lv_goto (tgt := 125) C.1 C.2.1 dX3_holds_111 (by decide) ?_
          cases h
          exact k_retz C hw hS (Or.inl rfl) dX3_holds_125
        · have h := it_t c103 h
          refine lv_iconst (v := 1) C.1 C.2.1 dX3_holds_106 (by decide) ?_
          refine lv_goto (tgt := 125) C.1 C.2.1 dX3_holds_107 (by decide) ?_
          cases h
          exact k_retz C hw hS (Or.inr rfl) dX3_holds_125
    · have h := it_t c73 h
      refine lv_lload_n C.1 C.2.1 dX3_holds_76 rfl (lv_at hl 2 rfl) ?_
      refine lv_lconst (v := 0) C.1 C.2.1 dX3_holds_77 (by decide) ?_
      refine W.lcmp C.1 C.2.1 dX3_holds_78 ?_
      refine lv_if_gt (tgt := 86) C.1 C.2.1 dX3_holds_79 (by decide) (fun c79 => ?_) (fun c79 => ?_)
      · have h := it_t c79 h
        refine lv_iconst (v := 0) C.1 C.2.1 dX3_holds_86 (by decide) ?_
        refine lv_goto (tgt := 125) C.1 C.2.1 dX3_holds_87 (by decide) ?_
        cases h
        exact k_retz C hw hS (Or.inl rfl) dX3_holds_125
      · have h := it_f c79 h
        refine lv_iconst (v := 1) C.1 C.2.1 dX3_holds_82 (by decide) ?_
        refine lv_goto (tgt := 125) C.1 C.2.1 dX3_holds_83 (by decide) ?_
        cases h
        exact k_retz C hw hS (Or.inr rfl) dX3_holds_125
  · have h := it_f c28 h
    refine lv_lload_n C.1 C.2.1 dX3_holds_31 rfl (lv_at hl 2 rfl) ?_
    refine lv_aload_n C.1 C.2.1 dX3_holds_32 rfl (lv_at hl 0 rfl) ?_
    refine gf_X3_bound C hw w_535 dX3_holds_33 ?_
    refine lv_iconst (v := 5) C.1 C.2.1 dX3_holds_36 (by decide) ?_
    refine lv_iload_n C.1 C.2.1 dX3_holds_37 rfl (lv_at hl 1 rfl) ?_
    refine lv_imul C.1 C.2.1 dX3_holds_38 ?_
    refine lv_iload C.1 C.2.1 dX3_holds_39 (lv_at hl 3 rfl) ?_
    refine lv_iadd C.1 C.2.1 dX3_holds_41 ?_
    obtain ⟨v42, h42, h⟩ := bind_s h
    refine k_iald C hw 11 (by decide) h42 dX3_holds_42 ?_
    refine lv_i2l (v := (Int32.toInt64 v42)) C.1 C.2.1 dX3_holds_43 rfl ?_
    refine lv_aload_n C.1 C.2.1 dX3_holds_44 rfl (lv_at hl 0 rfl) ?_
    refine gf_X3_above C hw w_540 dX3_holds_45 ?_
    refine lv_iconst (v := 5) C.1 C.2.1 dX3_holds_48 (by decide) ?_
    refine lv_aload_n C.1 C.2.1 dX3_holds_49 rfl (lv_at hl 0 rfl) ?_
    refine gf_X3_found C hw w_539 dX3_holds_50 ?_
    refine lv_imul C.1 C.2.1 dX3_holds_53 ?_
    refine lv_iload C.1 C.2.1 dX3_holds_54 (lv_at hl 3 rfl) ?_
    refine lv_iadd C.1 C.2.1 dX3_holds_56 ?_
    obtain ⟨v57, h57, h⟩ := bind_s h
    refine k_lald C hw 2 h57 dX3_holds_57 ?_
    refine lv_lmul C.1 C.2.1 dX3_holds_58 ?_
    refine lv_ladd C.1 C.2.1 dX3_holds_59 ?_
    refine lv_lstore_n (lv' := [(2, .long (x2 + ((Int32.toInt64 v42) * v57))), (0, .ref (tad θ 3)), (1, .int x1), (4, .int x4)]) C.1 C.2.1 dX3_holds_60 rfl hl (by decide) rfl (fun ls hl => ?_)
    refine lv_iinc (v := (x4 + 1)) (lv' := [(4, .int (x4 + 1)), (2, .long (x2 + ((Int32.toInt64 v42) * v57))), (0, .ref (tad θ 3)), (1, .int x1)]) C.1 C.2.1 dX3_holds_61 hl (k := 3) rfl rfl (by decide) rfl (fun ls hl => ?_)
    refine lv_goto (tgt := 22) C.1 C.2.1 dX3_holds_64 (by decide) ?_
    exact hk22 _ _ _ _ _ _ h _ _ ls (lv_sub hl [2, 3, 1, 0] rfl) hw hS
theorem t_X3_holds_22 {θ : Th} {p : Program} {l : Launch} {e : Env} {s : State} {m : MethodId} {args : Array Value} {below : List Frame} {meth : Method} {c : Code} (C : Cx θ p s m args meth c cX3_holds 5 RX3 (some .boolean)) (N : Nat) : J_X3_holds_22 θ p l e s m args below meth c (b_X3_holds_22 N) := lpT_ind (J := J_X3_holds_22 θ p l e s m args below meth c) (fun _ _ _ _ _ _ h => by cases h) (fun k hk => tF_X3_holds_22 C N hk) N
def b_X3_holds_0 (N : Nat) (x1 : Int32) (M : Mm) : Option (Int32 × Mm) :=
  (rA M 13 x1).bind fun v5 => (rL M 3 (M.1 9)).bind fun v16 => b_X3_holds_22 N x1 ((Int32.toInt64 (-v5)) * v16) 0 M
set_option maxRecDepth 100000 in
set_option maxHeartbeats 4000000 in
theorem t_X3_holds_0 {θ : Th} {p : Program} {l : Launch} {e : Env} {s : State} {m : MethodId} {args : Array Value} {below : List Frame} {meth : Method} {c : Code} (C : Cx θ p s m args meth c cX3_holds 5 RX3 (some .boolean)) (N : Nat) : J_X3_holds_0 θ p l e s m args below meth c (b_X3_holds_0 N) := by
  intro x1 M r M1 h H locs ls hl hw hS
  unfold b_X3_holds_0 at h
  refine lv_aload_n C.1 C.2.1 dX3_holds_0 rfl (lv_at hl 0 rfl) ?_
  refine gf_X3_boundRight C hw w_537 dX3_holds_1 ?_
  refine lv_iload_n C.1 C.2.1 dX3_holds_4 rfl (lv_at hl 1 rfl) ?_
  obtain ⟨v5, h5, h⟩ := bind_s h
  refine k_iald C hw 13 (by decide) h5 dX3_holds_5 ?_
  refine lv_ineg C.1 C.2.1 dX3_holds_6 ?_
  refine lv_i2l (v := (Int32.toInt64 (-v5))) C.1 C.2.1 dX3_holds_7 rfl ?_
  refine lv_aload_n C.1 C.2.1 dX3_holds_8 rfl (lv_at hl 0 rfl) ?_
  refine gf_X3_below C hw w_541 dX3_holds_9 ?_
  refine lv_aload_n C.1 C.2.1 dX3_holds_12 rfl (lv_at hl 0 rfl) ?_
  refine gf_X3_found C hw w_539 dX3_holds_13 ?_
  obtain ⟨v16, h16, h⟩ := bind_s h
  refine k_lald C hw 3 h16 dX3_holds_16 ?_
  refine lv_lmul C.1 C.2.1 dX3_holds_17 ?_
  refine lv_lstore_n (lv' := [(2, .long ((Int32.toInt64 (-v5)) * v16)), (0, .ref (tad θ 3)), (1, .int x1)]) C.1 C.2.1 dX3_holds_18 rfl hl (by decide) rfl (fun ls hl => ?_)
  refine lv_iconst (v := 0) C.1 C.2.1 dX3_holds_19 (by decide) ?_
  refine lv_istore (lv' := [(4, .int 0), (2, .long ((Int32.toInt64 (-v5)) * v16)), (0, .ref (tad θ 3)), (1, .int x1)]) C.1 C.2.1 dX3_holds_20 hl (by decide) rfl (fun ls hl => ?_)
  exact t_X3_holds_22 C N _ _ _ _ _ _ h _ _ ls (lv_sub hl [2, 3, 1, 0] rfl) hw hS
def f_X3_holds (N : Nat) (x1 : Int32) (M : Mm) : Option (Int32 × Mm) := b_X3_holds_0 N x1 M
set_option maxRecDepth 100000 in
theorem c_X3_holds (θ : Th) (l : Launch) (N : Nat) {x1 : Int32} {M : Mm} {r : Int32} {M1 : Mm} (h : f_X3_holds N x1 M = some (r, M1)) : Met l yX3_holds (gws yX3_holds cX3_holds 5 (some .boolean)) rm_X3_holds (va_Pc [.ref (tad θ 3), .int x1] (wU θ M)) (qI θ r M1) 0 0 (tA θ) :=
  k_met (by decide +kernel) (Nat.le_of_ble_eq_true rfl) (fun p e s m args below meth c C ls hl hw => t_X3_holds_0 C N _ _ _ _ h _ _ ls (lv_sub hl [0, 1] rfl) hw va_S.rf)
abbrev rm_X3_take : Room := { frames := 2, cells := 0, slots := 0, locals := 53 }
def J_X3_take_112 (θ : Th) (p : Program) (l : Launch) (e : Env) (s : State) (m : MethodId) (args : Array Value) (below : List Frame) (meth : Method) (c : Code) (g : Int64 → Int32 → Int64 → Int32 → Mm → Option Mm) : Prop := ∀ (x4 : Int64) (x6 : Int32) (s0 : Int64) (s1 : Int32) (M : Mm) (M1 : Mm), g x4 x6 s0 s1 M = some M1 → ∀ (H : Heap) (locs : List Loc) (ls : Array Slot), lv_has ls 8 [(0, .ref (tad θ 3)), (4, .long x4), (6, .int x6)] → wd θ M H → va_S (tA θ) s.heap H locs → W p l e rm_X3_take s m args below meth c H locs 0 0 (MQ below (qV θ M1) args s 0 0 (tA θ)) (F0 m 112 ls [.long s0, .int s1, .ref (tad θ (22 + 2))])
def J_X3_take_173 (θ : Th) (p : Program) (l : Launch) (e : Env) (s : State) (m : MethodId) (args : Array Value) (below : List Frame) (meth : Method) (c : Code) (g : Int32 → Int32 → Mm → Option Mm) : Prop := ∀ (x6 : Int32) (x7 : Int32) (M : Mm) (M1 : Mm), g x6 x7 M = some M1 → ∀ (H : Heap) (locs : List Loc) (ls : Array Slot), lv_has ls 8 [(0, .ref (tad θ 3)), (6, .int x6), (7, .int x7)] → wd θ M H → va_S (tA θ) s.heap H locs → W p l e rm_X3_take s m args below meth c H locs 0 0 (MQ below (qV θ M1) args s 0 0 (tA θ)) (F0 m 173 ls [])
def J_X3_take_62 (θ : Th) (p : Program) (l : Launch) (e : Env) (s : State) (m : MethodId) (args : Array Value) (below : List Frame) (meth : Method) (c : Code) (g : Int64 → Int32 → Mm → Option Mm) : Prop := ∀ (x4 : Int64) (x6 : Int32) (M : Mm) (M1 : Mm), g x4 x6 M = some M1 → ∀ (H : Heap) (locs : List Loc) (ls : Array Slot), lv_has ls 8 [(0, .ref (tad θ 3)), (4, .long x4), (6, .int x6)] → wd θ M H → va_S (tA θ) s.heap H locs → W p l e rm_X3_take s m args below meth c H locs 0 0 (MQ below (qV θ M1) args s 0 0 (tA θ)) (F0 m 62 ls [])
def J_X3_take_34 (θ : Th) (p : Program) (l : Launch) (e : Env) (s : State) (m : MethodId) (args : Array Value) (below : List Frame) (meth : Method) (c : Code) (g : Int64 → Int64 → Mm → Option Mm) : Prop := ∀ (x2 : Int64) (s0 : Int64) (M : Mm) (M1 : Mm), g x2 s0 M = some M1 → ∀ (H : Heap) (locs : List Loc) (ls : Array Slot), lv_has ls 8 [(0, .ref (tad θ 3)), (2, .long x2)] → wd θ M H → va_S (tA θ) s.heap H locs → W p l e rm_X3_take s m args below meth c H locs 0 0 (MQ below (qV θ M1) args s 0 0 (tA θ)) (F0 m 34 ls [.long s0])
def J_X3_take_0 (θ : Th) (p : Program) (l : Launch) (e : Env) (s : State) (m : MethodId) (args : Array Value) (below : List Frame) (meth : Method) (c : Code) (g : Int32 → Mm → Option Mm) : Prop := ∀ (x1 : Int32) (M : Mm) (M1 : Mm), g x1 M = some M1 → ∀ (H : Heap) (locs : List Loc) (ls : Array Slot), lv_has ls 8 [(0, .ref (tad θ 3)), (1, .int x1)] → wd θ M H → va_S (tA θ) s.heap H locs → W p l e rm_X3_take s m args below meth c H locs 0 0 (MQ below (qV θ M1) args s 0 0 (tA θ)) (F0 m 0 ls [])
def b_X3_take_112 (N : Nat) (k62 : Int64 → Int32 → Mm → Option Mm) (x4 : Int64) (x6 : Int32) (s0 : Int64) (s1 : Int32) (M : Mm) : Option Mm :=
  (wL M 2 s1 s0).bind fun M112 => (rL M112 4 (M112.1 9)).bind fun v122 => (if (M112.1 4) ≤ x6 then (wL M112 4 (M112.1 9) (v122 + 0)).bind fun M160 => k62 x4 (x6 + 1) M160 else (rA M112 8 x6).bind fun v138 => (rL M112 2 ((5 * (M112.1 9)) + x6)).bind fun v153 => (wL M112 4 (M112.1 9) (v122 + ((Int32.toInt64 v138) * v153))).bind fun M160 => k62 x4 (x6 + 1) M160)
set_option maxRecDepth 100000 in
set_option maxHeartbeats 4000000 in
theorem t_X3_take_112 {θ : Th} {p : Program} {l : Launch} {e : Env} {s : State} {m : MethodId} {args : Array Value} {below : List Frame} {meth : Method} {c : Code} (C : Cx θ p s m args meth c cX3_take 8 RX3 none) (N : Nat) {k62 : Int64 → Int32 → Mm → Option Mm} (hk62 : J_X3_take_62 θ p l e s m args below meth c k62) : J_X3_take_112 θ p l e s m args below meth c (b_X3_take_112 N k62) := by
  intro x4 x6 s0 s1 M M1 h H locs ls hl hw hS
  unfold b_X3_take_112 at h
  obtain ⟨M112, h112, h⟩ := bind_s h
  refine k_last C hw hS 2 h112 dX3_take_112 (fun H locs hw hS => ?_)
  refine lv_aload_n C.1 C.2.1 dX3_take_113 rfl (lv_at hl 0 rfl) ?_
  refine gf_X3_worth C hw w_542 dX3_take_114 ?_
  refine lv_aload_n C.1 C.2.1 dX3_take_117 rfl (lv_at hl 0 rfl) ?_
  refine gf_X3_found C hw w_539 dX3_take_118 ?_
  refine lv_dup2_11 C.1 C.2.1 dX3_take_121 rfl rfl ?_
  obtain ⟨v122, h122, h⟩ := bind_s h
  refine k_lald C hw 4 h122 dX3_take_122 ?_
  refine lv_iload C.1 C.2.1 dX3_take_123 (lv_at hl 2 rfl) ?_
  refine lv_aload_n C.1 C.2.1 dX3_take_125 rfl (lv_at hl 0 rfl) ?_
  refine gf_X3_n C hw w_525 dX3_take_126 ?_
  refine lv_icmp_ge (tgt := 158) C.1 C.2.1 dX3_take_129 (by decide) (fun c129 => ?_) (fun c129 => ?_)
  · have h := it_t c129 h
    refine lv_lconst (v := 0) C.1 C.2.1 dX3_take_158 (by decide) ?_
    refine lv_ladd C.1 C.2.1 dX3_take_159 ?_
    obtain ⟨M160, h160, h⟩ := bind_s h
    refine k_last C hw hS 4 h160 dX3_take_160 (fun H locs hw hS => ?_)
    refine lv_iinc (v := (x6 + 1)) (lv' := [(6, .int (x6 + 1)), (0, .ref (tad θ 3)), (4, .long x4)]) C.1 C.2.1 dX3_take_161 hl (k := 2) rfl rfl (by decide) rfl (fun ls hl => ?_)
    refine lv_goto (tgt := 62) C.1 C.2.1 dX3_take_164 (by decide) ?_
    exact hk62 _ _ _ _ h _ _ ls (lv_sub hl [1, 2, 0] rfl) hw hS
  · have h := it_f c129 h
    refine lv_aload_n C.1 C.2.1 dX3_take_132 rfl (lv_at hl 0 rfl) ?_
    refine gf_X3_c C hw w_529 dX3_take_133 ?_
    refine lv_iload C.1 C.2.1 dX3_take_136 (lv_at hl 2 rfl) ?_
    obtain ⟨v138, h138, h⟩ := bind_s h
    refine k_iald C hw 8 (by decide) h138 dX3_take_138 ?_
    refine lv_i2l (v := (Int32.toInt64 v138)) C.1 C.2.1 dX3_take_139 rfl ?_
    refine lv_aload_n C.1 C.2.1 dX3_take_140 rfl (lv_at hl 0 rfl) ?_
    refine gf_X3_above C hw w_540 dX3_take_141 ?_
    refine lv_iconst (v := 5) C.1 C.2.1 dX3_take_144 (by decide) ?_
    refine lv_aload_n C.1 C.2.1 dX3_take_145 rfl (lv_at hl 0 rfl) ?_
    refine gf_X3_found C hw w_539 dX3_take_146 ?_
    refine lv_imul C.1 C.2.1 dX3_take_149 ?_
    refine lv_iload C.1 C.2.1 dX3_take_150 (lv_at hl 2 rfl) ?_
    refine lv_iadd C.1 C.2.1 dX3_take_152 ?_
    obtain ⟨v153, h153, h⟩ := bind_s h
    refine k_lald C hw 2 h153 dX3_take_153 ?_
    refine lv_lmul C.1 C.2.1 dX3_take_154 ?_
    refine lv_goto (tgt := 159) C.1 C.2.1 dX3_take_155 (by decide) ?_
    refine lv_ladd C.1 C.2.1 dX3_take_159 ?_
    obtain ⟨M160, h160, h⟩ := bind_s h
    refine k_last C hw hS 4 h160 dX3_take_160 (fun H locs hw hS => ?_)
    refine lv_iinc (v := (x6 + 1)) (lv' := [(6, .int (x6 + 1)), (0, .ref (tad θ 3)), (4, .long x4)]) C.1 C.2.1 dX3_take_161 hl (k := 2) rfl rfl (by decide) rfl (fun ls hl => ?_)
    refine lv_goto (tgt := 62) C.1 C.2.1 dX3_take_164 (by decide) ?_
    exact hk62 _ _ _ _ h _ _ ls (lv_sub hl [1, 2, 0] rfl) hw hS
def F_X3_take_173 (N : Nat) (k173 : Int32 → Int32 → Mm → Option Mm) (x6 : Int32) (x7 : Int32) (M : Mm) : Option Mm :=
  (if (M.1 8) ≤ x7 then (if x6 = 0 then some (wI M 9 ((M.1 9) + 0)) else some (wI M 9 ((M.1 9) + 1))) else (if x6 = 0 then k173 0 (x7 + 1) M else (f_X3_holds N x7 M).bind fun (r190, M190) => (if r190 = 0 then k173 0 (x7 + 1) M190 else k173 1 (x7 + 1) M190)))
abbrev b_X3_take_173 (N : Nat) : Int32 → Int32 → Mm → Option Mm := lpT (fun _ _ _ => none) (F_X3_take_173 N) N
set_option maxRecDepth 100000 in
set_option maxHeartbeats 4000000 in
theorem tF_X3_take_173 {θ : Th} {p : Program} {l : Launch} {e : Env} {s : State} {m : MethodId} {args : Array Value} {below : List Frame} {meth : Method} {c : Code} (C : Cx θ p s m args meth c cX3_take 8 RX3 none) (N : Nat) {k173 : Int32 → Int32 → Mm → Option Mm} (hk173 : J_X3_take_173 θ p l e s m args below meth c k173) : J_X3_take_173 θ p l e s m args below meth c (F_X3_take_173 N k173) := by
  intro x6 x7 M M1 h H locs ls hl hw hS
  unfold F_X3_take_173 at h
  refine lv_iload C.1 C.2.1 dX3_take_173 (lv_at hl 2 rfl) ?_
  refine lv_aload_n C.1 C.2.1 dX3_take_175 rfl (lv_at hl 0 rfl) ?_
  refine gf_X3_bounds C hw w_534 dX3_take_176 ?_
  refine lv_icmp_ge (tgt := 209) C.1 C.2.1 dX3_take_179 (by decide) (fun c179 => ?_) (fun c179 => ?_)
  · have h := it_t c179 h
    refine lv_aload_n C.1 C.2.1 dX3_take_209 rfl (lv_at hl 0 rfl) ?_
    refine lv_dup C.1 C.2.1 dX3_take_210 rfl ?_
    refine gf_X3_found C hw w_539 dX3_take_211 ?_
    refine lv_iload C.1 C.2.1 dX3_take_214 (lv_at hl 1 rfl) ?_
    refine lv_if_eq (tgt := 223) C.1 C.2.1 dX3_take_216 (by decide) (fun c216 => ?_) (fun c216 => ?_)
    · have h := it_t c216 h
      refine lv_iconst (v := 0) C.1 C.2.1 dX3_take_223 (by decide) ?_
      refine lv_iadd C.1 C.2.1 dX3_take_224 ?_
      refine pf_X3_found C hw hS w_539 dX3_take_225 (fun H locs hw hS => ?_)
      cases h
      exact k_retv C hw hS dX3_take_228
    · have h := it_f c216 h
      refine lv_iconst (v := 1) C.1 C.2.1 dX3_take_219 (by decide) ?_
      refine lv_goto (tgt := 224) C.1 C.2.1 dX3_take_220 (by decide) ?_
      refine lv_iadd C.1 C.2.1 dX3_take_224 ?_
      refine pf_X3_found C hw hS w_539 dX3_take_225 (fun H locs hw hS => ?_)
      cases h
      exact k_retv C hw hS dX3_take_228
  · have h := it_f c179 h
    refine lv_iload C.1 C.2.1 dX3_take_182 (lv_at hl 1 rfl) ?_
    refine lv_if_eq (tgt := 200) C.1 C.2.1 dX3_take_184 (by decide) (fun c184 => ?_) (fun c184 => ?_)
    · have h := it_t c184 h
      refine lv_iconst (v := 0) C.1 C.2.1 dX3_take_200 (by decide) ?_
      refine lv_istore (lv' := [(6, .int 0), (0, .ref (tad θ 3)), (7, .int x7)]) C.1 C.2.1 dX3_take_201 hl (by decide) rfl (fun ls hl => ?_)
      refine lv_iinc (v := (x7 + 1)) (lv' := [(7, .int (x7 + 1)), (6, .int 0), (0, .ref (tad θ 3))]) C.1 C.2.1 dX3_take_203 hl (k := 2) rfl rfl (by decide) rfl (fun ls hl => ?_)
      refine lv_goto (tgt := 173) C.1 C.2.1 dX3_take_206 (by decide) ?_
      exact hk173 _ _ _ _ h _ _ ls (lv_sub hl [2, 1, 0] rfl) hw hS
    · have h := it_f c184 h
      refine lv_aload_n C.1 C.2.1 dX3_take_187 rfl (lv_at hl 0 rfl) ?_
      refine lv_iload C.1 C.2.1 dX3_take_188 (lv_at hl 2 rfl) ?_
      obtain ⟨⟨r190, M190⟩, h190, h⟩ := bind_s h
      dsimp only at h
      refine k_ci (k_runV (As := [.int x7]) C cf_X3_holds cv_X3_holds w_666 rc3 (c_X3_holds θ l N h190) ⟨rfl, rfl, Nat.le_of_ble_eq_true rfl, Nat.le_of_ble_eq_true rfl⟩ rfl hl.1 rfl (Nat.le_of_ble_eq_true rfl) dX3_take_190 ⟨Nat.zero_le _, Nat.zero_le _⟩ hw) hS (fun H locs hw hS => ?_)
      refine lv_if_eq (tgt := 200) C.1 C.2.1 dX3_take_193 (by decide) (fun c193 => ?_) (fun c193 => ?_)
      · have h := it_t c193 h
        refine lv_iconst (v := 0) C.1 C.2.1 dX3_take_200 (by decide) ?_
        refine lv_istore (lv' := [(6, .int 0), (0, .ref (tad θ 3)), (7, .int x7)]) C.1 C.2.1 dX3_take_201 hl (by decide) rfl (fun ls hl => ?_)
        refine lv_iinc (v := (x7 + 1)) (lv' := [(7, .int (x7 + 1)), (6, .int 0), (0, .ref (tad θ 3))]) C.1 C.2.1 dX3_take_203 hl (k := 2) rfl rfl (by decide) rfl (fun ls hl => ?_)
        refine lv_goto (tgt := 173) C.1 C.2.1 dX3_take_206 (by decide) ?_
        exact hk173 _ _ _ _ h _ _ ls (lv_sub hl [2, 1, 0] rfl) hw hS
      · have h := it_f c193 h
        refine lv_iconst (v := 1) C.1 C.2.1 dX3_take_196 (by decide) ?_
        refine lv_goto (tgt := 201) C.1 C.2.1 dX3_take_197 (by decide) ?_
        refine lv_istore (lv' := [(6, .int 1), (0, .ref (tad θ 3)), (7, .int x7)]) C.1 C.2.1 dX3_take_201 hl (by decide) rfl (fun ls hl => ?_)
        refine lv_iinc (v := (x7 + 1)) (lv' := [(7, .int (x7 + 1)), (6, .int 1), (0, .ref (tad θ 3))]) C.1 C.2.1 dX3_take_203 hl (k := 2) rfl rfl (by decide) rfl (fun ls hl => ?_)
        refine lv_goto (tgt := 173) C.1 C.2.1 dX3_take_206 (by decide) ?_
        exact hk173 _ _ _ _ h _ _ ls (lv_sub hl [2, 1, 0] rfl) hw hS
theorem t_X3_take_173 {θ : Th} {p : Program} {l : Launch} {e : Env} {s : State} {m : MethodId} {args : Array Value} {below : List Frame} {meth : Method} {c : Code} (C : Cx θ p s m args meth c cX3_take 8 RX3 none) (N : Nat) : J_X3_take_173 θ p l e s m args below meth c (b_X3_take_173 N) := lpT_ind (J := J_X3_take_173 θ p l e s m args below meth c) (fun _ _ _ _ h => by cases h) (fun k hk => tF_X3_take_173 C N hk) N
def F_X3_take_62 (N : Nat) (k62 : Int64 → Int32 → Mm → Option Mm) (x4 : Int64) (x6 : Int32) (M : Mm) : Option Mm :=
  (if 5 ≤ x6 then b_X3_take_173 N 1 0 M else (if (M.1 7) ≤ x6 then b_X3_take_112 N k62 x4 x6 0 ((5 * (M.1 9)) + x6) M else (rL M 1 ((6 * x6) + (M.1 7))).bind fun v106 => b_X3_take_112 N k62 x4 x6 (x4 * v106) ((5 * (M.1 9)) + x6) M))
abbrev b_X3_take_62 (N : Nat) : Int64 → Int32 → Mm → Option Mm := lpT (fun _ _ _ => none) (F_X3_take_62 N) N
set_option maxRecDepth 100000 in
set_option maxHeartbeats 4000000 in
theorem tF_X3_take_62 {θ : Th} {p : Program} {l : Launch} {e : Env} {s : State} {m : MethodId} {args : Array Value} {below : List Frame} {meth : Method} {c : Code} (C : Cx θ p s m args meth c cX3_take 8 RX3 none) (N : Nat) {k62 : Int64 → Int32 → Mm → Option Mm} (hk62 : J_X3_take_62 θ p l e s m args below meth c k62) : J_X3_take_62 θ p l e s m args below meth c (F_X3_take_62 N k62) := by
  intro x4 x6 M M1 h H locs ls hl hw hS
  unfold F_X3_take_62 at h
  refine lv_iload C.1 C.2.1 dX3_take_62 (lv_at hl 2 rfl) ?_
  refine lv_iconst (v := 5) C.1 C.2.1 dX3_take_64 (by decide) ?_
  refine lv_icmp_ge (tgt := 167) C.1 C.2.1 dX3_take_65 (by decide) (fun c65 => ?_) (fun c65 => ?_)
  · have h := it_t c65 h
    refine lv_iconst (v := 1) C.1 C.2.1 dX3_take_167 (by decide) ?_
    refine lv_istore (lv' := [(6, .int 1), (0, .ref (tad θ 3)), (4, .long x4)]) C.1 C.2.1 dX3_take_168 hl (by decide) rfl (fun ls hl => ?_)
    refine lv_iconst (v := 0) C.1 C.2.1 dX3_take_170 (by decide) ?_
    refine lv_istore (lv' := [(7, .int 0), (6, .int 1), (0, .ref (tad θ 3)), (4, .long x4)]) C.1 C.2.1 dX3_take_171 hl (by decide) rfl (fun ls hl => ?_)
    exact t_X3_take_173 C N _ _ _ _ h _ _ ls (lv_sub hl [2, 1, 0] rfl) hw hS
  · have h := it_f c65 h
    refine lv_aload_n C.1 C.2.1 dX3_take_68 rfl (lv_at hl 0 rfl) ?_
    refine gf_X3_above C hw w_540 dX3_take_69 ?_
    refine lv_iconst (v := 5) C.1 C.2.1 dX3_take_72 (by decide) ?_
    refine lv_aload_n C.1 C.2.1 dX3_take_73 rfl (lv_at hl 0 rfl) ?_
    refine gf_X3_found C hw w_539 dX3_take_74 ?_
    refine lv_imul C.1 C.2.1 dX3_take_77 ?_
    refine lv_iload C.1 C.2.1 dX3_take_78 (lv_at hl 2 rfl) ?_
    refine lv_iadd C.1 C.2.1 dX3_take_80 ?_
    refine lv_iload C.1 C.2.1 dX3_take_81 (lv_at hl 2 rfl) ?_
    refine lv_aload_n C.1 C.2.1 dX3_take_83 rfl (lv_at hl 0 rfl) ?_
    refine gf_X3_width C hw w_533 dX3_take_84 ?_
    refine lv_icmp_ge (tgt := 111) C.1 C.2.1 dX3_take_87 (by decide) (fun c87 => ?_) (fun c87 => ?_)
    · have h := it_t c87 h
      refine lv_lconst (v := 0) C.1 C.2.1 dX3_take_111 (by decide) ?_
      exact t_X3_take_112 C N hk62 _ _ _ _ _ _ h _ _ ls (lv_sub hl [0, 1, 2] rfl) hw hS
    · have h := it_f c87 h
      refine lv_lload C.1 C.2.1 dX3_take_90 (lv_at hl 1 rfl) ?_
      refine lv_aload_n C.1 C.2.1 dX3_take_92 rfl (lv_at hl 0 rfl) ?_
      refine gf_X3_matrix C hw w_538 dX3_take_93 ?_
      refine lv_bipush (v := 6) C.1 C.2.1 dX3_take_96 (by decide) ?_
      refine lv_iload C.1 C.2.1 dX3_take_98 (lv_at hl 2 rfl) ?_
      refine lv_imul C.1 C.2.1 dX3_take_100 ?_
      refine lv_aload_n C.1 C.2.1 dX3_take_101 rfl (lv_at hl 0 rfl) ?_
      refine gf_X3_width C hw w_533 dX3_take_102 ?_
      refine lv_iadd C.1 C.2.1 dX3_take_105 ?_
      obtain ⟨v106, h106, h⟩ := bind_s h
      refine k_lald C hw 1 h106 dX3_take_106 ?_
      refine lv_lmul C.1 C.2.1 dX3_take_107 ?_
      refine lv_goto (tgt := 112) C.1 C.2.1 dX3_take_108 (by decide) ?_
      exact t_X3_take_112 C N hk62 _ _ _ _ _ _ h _ _ ls (lv_sub hl [0, 1, 2] rfl) hw hS
theorem t_X3_take_62 {θ : Th} {p : Program} {l : Launch} {e : Env} {s : State} {m : MethodId} {args : Array Value} {below : List Frame} {meth : Method} {c : Code} (C : Cx θ p s m args meth c cX3_take 8 RX3 none) (N : Nat) : J_X3_take_62 θ p l e s m args below meth c (b_X3_take_62 N) := lpT_ind (J := J_X3_take_62 θ p l e s m args below meth c) (fun _ _ _ _ h => by cases h) (fun k hk => tF_X3_take_62 C N hk) N
def b_X3_take_34 (N : Nat) (x2 : Int64) (s0 : Int64) (M : Mm) : Option Mm :=
  (wL M 3 (M.1 9) (s0 * x2)).bind fun M48 => (wL M48 4 (M48.1 9) 0).bind fun M58 => b_X3_take_62 N s0 0 M58
set_option maxRecDepth 100000 in
set_option maxHeartbeats 4000000 in
theorem t_X3_take_34 {θ : Th} {p : Program} {l : Launch} {e : Env} {s : State} {m : MethodId} {args : Array Value} {below : List Frame} {meth : Method} {c : Code} (C : Cx θ p s m args meth c cX3_take 8 RX3 none) (N : Nat) : J_X3_take_34 θ p l e s m args below meth c (b_X3_take_34 N) := by
  intro x2 s0 M M1 h H locs ls hl hw hS
  unfold b_X3_take_34 at h
  refine lv_lstore (lv' := [(4, .long s0), (0, .ref (tad θ 3)), (2, .long x2)]) C.1 C.2.1 dX3_take_34 hl (by decide) rfl (fun ls hl => ?_)
  refine lv_aload_n C.1 C.2.1 dX3_take_36 rfl (lv_at hl 1 rfl) ?_
  refine gf_X3_below C hw w_541 dX3_take_37 ?_
  refine lv_aload_n C.1 C.2.1 dX3_take_40 rfl (lv_at hl 1 rfl) ?_
  refine gf_X3_found C hw w_539 dX3_take_41 ?_
  refine lv_lload C.1 C.2.1 dX3_take_44 (lv_at hl 0 rfl) ?_
  refine lv_lload_n C.1 C.2.1 dX3_take_46 rfl (lv_at hl 2 rfl) ?_
  refine lv_lmul C.1 C.2.1 dX3_take_47 ?_
  obtain ⟨M48, h48, h⟩ := bind_s h
  refine k_last C hw hS 3 h48 dX3_take_48 (fun H locs hw hS => ?_)
  refine lv_aload_n C.1 C.2.1 dX3_take_49 rfl (lv_at hl 1 rfl) ?_
  refine gf_X3_worth C hw w_542 dX3_take_50 ?_
  refine lv_aload_n C.1 C.2.1 dX3_take_53 rfl (lv_at hl 1 rfl) ?_
  refine gf_X3_found C hw w_539 dX3_take_54 ?_
  refine lv_lconst (v := 0) C.1 C.2.1 dX3_take_57 (by decide) ?_
  obtain ⟨M58, h58, h⟩ := bind_s h
  refine k_last C hw hS 4 h58 dX3_take_58 (fun H locs hw hS => ?_)
  refine lv_iconst (v := 0) C.1 C.2.1 dX3_take_59 (by decide) ?_
  refine lv_istore (lv' := [(6, .int 0), (4, .long s0), (0, .ref (tad θ 3)), (2, .long x2)]) C.1 C.2.1 dX3_take_60 hl (by decide) rfl (fun ls hl => ?_)
  exact t_X3_take_62 C N _ _ _ _ h _ _ ls (lv_sub hl [2, 1, 0] rfl) hw hS
def b_X3_take_0 (N : Nat) (x1 : Int32) (M : Mm) : Option Mm :=
  (f_X3_picked N x1 M).bind fun (r2, M2) => (if r2 = 0 then some M2 else (f_X3_solved N M2).bind fun (r10, M10) => (if (lg_cmp r10 0) = 0 then some M10 else (if 0 ≤ (lg_cmp r10 0) then b_X3_take_34 N r10 1 M10 else b_X3_take_34 N r10 (-1) M10)))
set_option maxRecDepth 100000 in
set_option maxHeartbeats 4000000 in
theorem t_X3_take_0 {θ : Th} {p : Program} {l : Launch} {e : Env} {s : State} {m : MethodId} {args : Array Value} {below : List Frame} {meth : Method} {c : Code} (C : Cx θ p s m args meth c cX3_take 8 RX3 none) (N : Nat) : J_X3_take_0 θ p l e s m args below meth c (b_X3_take_0 N) := by
  intro x1 M M1 h H locs ls hl hw hS
  unfold b_X3_take_0 at h
  refine lv_aload_n C.1 C.2.1 dX3_take_0 rfl (lv_at hl 0 rfl) ?_
  refine lv_iload_n C.1 C.2.1 dX3_take_1 rfl (lv_at hl 1 rfl) ?_
  obtain ⟨⟨r2, M2⟩, h2, h⟩ := bind_s h
  dsimp only at h
  refine k_ci (k_runV (As := [.int x1]) C cf_X3_picked cv_X3_picked w_649 rc3 (c_X3_picked θ l N h2) ⟨rfl, rfl, Nat.le_of_ble_eq_true rfl, Nat.le_of_ble_eq_true rfl⟩ rfl hl.1 rfl (Nat.le_of_ble_eq_true rfl) dX3_take_2 ⟨Nat.zero_le _, Nat.zero_le _⟩ hw) hS (fun H locs hw hS => ?_)
  refine lv_if_ne (tgt := 9) C.1 C.2.1 dX3_take_5 (by decide) (fun c5 => ?_) (fun c5 => ?_)
  · have h := it_f c5 h
    refine lv_aload_n C.1 C.2.1 dX3_take_9 rfl (lv_at hl 0 rfl) ?_
    obtain ⟨⟨r10, M10⟩, h10, h⟩ := bind_s h
    dsimp only at h
    refine k_cl (k_runV (As := []) C cf_X3_solved cv_X3_solved w_653 rc3 (c_X3_solved θ l N h10) ⟨rfl, rfl, Nat.le_of_ble_eq_true rfl, Nat.le_of_ble_eq_true rfl⟩ rfl hl.1 rfl (Nat.le_of_ble_eq_true rfl) dX3_take_10 ⟨Nat.zero_le _, Nat.zero_le _⟩ hw) hS (fun H locs hw hS => ?_)
    refine lv_lstore_n (lv' := [(2, .long r10), (0, .ref (tad θ 3)), (1, .int x1)]) C.1 C.2.1 dX3_take_13 rfl hl (by decide) rfl (fun ls hl => ?_)
    refine lv_lload_n C.1 C.2.1 dX3_take_14 rfl (lv_at hl 0 rfl) ?_
    refine lv_lconst (v := 0) C.1 C.2.1 dX3_take_15 (by decide) ?_
    refine W.lcmp C.1 C.2.1 dX3_take_16 ?_
    refine lv_if_ne (tgt := 21) C.1 C.2.1 dX3_take_17 (by decide) (fun c17 => ?_) (fun c17 => ?_)
    · have h := it_f c17 h
      refine lv_lload_n C.1 C.2.1 dX3_take_21 rfl (lv_at hl 0 rfl) ?_
      refine lv_lconst (v := 0) C.1 C.2.1 dX3_take_22 (by decide) ?_
      refine W.lcmp C.1 C.2.1 dX3_take_23 ?_
      refine lv_if_ge (tgt := 33) C.1 C.2.1 dX3_take_24 (by decide) (fun c24 => ?_) (fun c24 => ?_)
      · have h := it_t c24 h
        refine lv_lconst (v := 1) C.1 C.2.1 dX3_take_33 (by decide) ?_
        exact t_X3_take_34 C N _ _ _ _ h _ _ ls (lv_sub hl [1, 0] rfl) hw hS
      · have h := it_f c24 h
        refine lv_ldc2 (v := -1) C.1 C.2.1 C.2.2.2.1 (C.2.2.2.2.1 _ w_665) dX3_take_27 ?_
        refine lv_goto (tgt := 34) C.1 C.2.1 dX3_take_30 (by decide) ?_
        exact t_X3_take_34 C N _ _ _ _ h _ _ ls (lv_sub hl [1, 0] rfl) hw hS
    · have h := it_t c17 h
      cases h
      exact k_retv C hw hS dX3_take_20
  · have h := it_t c5 h
    cases h
    exact k_retv C hw hS dX3_take_8
def f_X3_take (N : Nat) (x1 : Int32) (M : Mm) : Option Mm := b_X3_take_0 N x1 M
set_option maxRecDepth 100000 in
theorem c_X3_take (θ : Th) (l : Launch) (N : Nat) {x1 : Int32} {M : Mm} {M1 : Mm} (h : f_X3_take N x1 M = some M1) : Met l yX3_take (gws yX3_take cX3_take 8 none) rm_X3_take (va_Pc [.ref (tad θ 3), .int x1] (wU θ M)) (qV θ M1) 0 0 (tA θ) :=
  k_met (by decide +kernel) (Nat.le_of_ble_eq_true rfl) (fun p e s m args below meth c C ls hl hw => t_X3_take_0 C N _ _ _ h _ _ ls (lv_sub hl [0, 1] rfl) hw va_S.rf)
abbrev rm_X3_collect : Room := { frames := 3, cells := 0, slots := 0, locals := 80 }
def J_X3_collect_13 (θ : Th) (p : Program) (l : Launch) (e : Env) (s : State) (m : MethodId) (args : Array Value) (below : List Frame) (meth : Method) (c : Code) (g : Int32 → Mm → Option Mm) : Prop := ∀ (x3 : Int32) (M : Mm) (M1 : Mm), g x3 M = some M1 → ∀ (H : Heap) (locs : List Loc) (ls : Array Slot), lv_has ls 4 [(0, .ref (tad θ 3)), (3, .int x3)] → wd θ M H → va_S (tA θ) s.heap H locs → W p l e rm_X3_collect s m args below meth c H locs 0 0 (MQ below (qV θ M1) args s 0 0 (tA θ)) (F0 m 13 ls [])
def J_X3_collect_0 (θ : Th) (p : Program) (l : Launch) (e : Env) (s : State) (m : MethodId) (args : Array Value) (below : List Frame) (meth : Method) (c : Code) (g : Int32 → Int32 → Mm → Option Mm) : Prop := ∀ (x1 : Int32) (x2 : Int32) (M : Mm) (M1 : Mm), g x1 x2 M = some M1 → ∀ (H : Heap) (locs : List Loc) (ls : Array Slot), lv_has ls 4 [(0, .ref (tad θ 3)), (1, .int x1), (2, .int x2)] → wd θ M H → va_S (tA θ) s.heap H locs → W p l e rm_X3_collect s m args below meth c H locs 0 0 (MQ below (qV θ M1) args s 0 0 (tA θ)) (F0 m 0 ls [])
def F_X3_collect_13 (N : Nat) (k13 : Int32 → Mm → Option Mm) (x3 : Int32) (M : Mm) : Option Mm :=
  (if (1 <<< ((M.1 8) &&& 31)) ≤ x3 then some M else (f_X3_take N x3 M).bind fun M25 => k13 (x3 + 1) M25)
abbrev b_X3_collect_13 (N : Nat) : Int32 → Mm → Option Mm := lpT (fun _ _ => none) (F_X3_collect_13 N) N
set_option maxRecDepth 100000 in
set_option maxHeartbeats 4000000 in
theorem tF_X3_collect_13 {θ : Th} {p : Program} {l : Launch} {e : Env} {s : State} {m : MethodId} {args : Array Value} {below : List Frame} {meth : Method} {c : Code} (C : Cx θ p s m args meth c cX3_collect 4 RX3 none) (N : Nat) {k13 : Int32 → Mm → Option Mm} (hk13 : J_X3_collect_13 θ p l e s m args below meth c k13) : J_X3_collect_13 θ p l e s m args below meth c (F_X3_collect_13 N k13) := by
  intro x3 M M1 h H locs ls hl hw hS
  unfold F_X3_collect_13 at h
  refine lv_iload_n C.1 C.2.1 dX3_collect_13 rfl (lv_at hl 1 rfl) ?_
  refine lv_iconst (v := 1) C.1 C.2.1 dX3_collect_14 (by decide) ?_
  refine lv_aload_n C.1 C.2.1 dX3_collect_15 rfl (lv_at hl 0 rfl) ?_
  refine gf_X3_bounds C hw w_534 dX3_collect_16 ?_
  refine lv_ishl C.1 C.2.1 dX3_collect_19 ?_
  refine lv_icmp_ge (tgt := 34) C.1 C.2.1 dX3_collect_20 (by decide) (fun c20 => ?_) (fun c20 => ?_)
  · have h := it_t c20 h
    cases h
    exact k_retv C hw hS dX3_collect_34
  · have h := it_f c20 h
    refine lv_aload_n C.1 C.2.1 dX3_collect_23 rfl (lv_at hl 0 rfl) ?_
    refine lv_iload_n C.1 C.2.1 dX3_collect_24 rfl (lv_at hl 1 rfl) ?_
    obtain ⟨M25, h25, h⟩ := bind_s h
    refine k_cv (k_runV (As := [.int x3]) C cf_X3_take cv_X3_take w_645 rc3 (c_X3_take θ l N h25) ⟨rfl, rfl, Nat.le_of_ble_eq_true rfl, Nat.le_of_ble_eq_true rfl⟩ rfl hl.1 rfl (Nat.le_of_ble_eq_true rfl) dX3_collect_25 ⟨Nat.zero_le _, Nat.zero_le _⟩ hw) hS (fun H locs hw hS => ?_)
    refine lv_iinc (v := (x3 + 1)) (lv' := [(3, .int (x3 + 1)), (0, .ref (tad θ 3))]) C.1 C.2.1 dX3_collect_28 hl (k := 1) rfl rfl (by decide) rfl (fun ls hl => ?_)
    refine lv_goto (tgt := 13) C.1 C.2.1 dX3_collect_31 (by decide) ?_
    exact hk13 _ _ _ h _ _ ls (lv_sub hl [1, 0] rfl) hw hS
theorem t_X3_collect_13 {θ : Th} {p : Program} {l : Launch} {e : Env} {s : State} {m : MethodId} {args : Array Value} {below : List Frame} {meth : Method} {c : Code} (C : Cx θ p s m args meth c cX3_collect 4 RX3 none) (N : Nat) : J_X3_collect_13 θ p l e s m args below meth c (b_X3_collect_13 N) := lpT_ind (J := J_X3_collect_13 θ p l e s m args below meth c) (fun _ _ _ h => by cases h) (fun k hk => tF_X3_collect_13 C N hk) N
def b_X3_collect_0 (N : Nat) (x1 : Int32) (x2 : Int32) (M : Mm) : Option Mm :=
  (f_X3_setUp N x1 x2 M).bind fun M3 => b_X3_collect_13 N 1 (wI M3 9 0)
set_option maxRecDepth 100000 in
set_option maxHeartbeats 4000000 in
theorem t_X3_collect_0 {θ : Th} {p : Program} {l : Launch} {e : Env} {s : State} {m : MethodId} {args : Array Value} {below : List Frame} {meth : Method} {c : Code} (C : Cx θ p s m args meth c cX3_collect 4 RX3 none) (N : Nat) : J_X3_collect_0 θ p l e s m args below meth c (b_X3_collect_0 N) := by
  intro x1 x2 M M1 h H locs ls hl hw hS
  unfold b_X3_collect_0 at h
  refine lv_aload_n C.1 C.2.1 dX3_collect_0 rfl (lv_at hl 0 rfl) ?_
  refine lv_iload_n C.1 C.2.1 dX3_collect_1 rfl (lv_at hl 1 rfl) ?_
  refine lv_iload_n C.1 C.2.1 dX3_collect_2 rfl (lv_at hl 2 rfl) ?_
  obtain ⟨M3, h3, h⟩ := bind_s h
  refine k_cv (k_runV (As := [.int x1, .int x2]) C cf_X3_setUp cv_X3_setUp w_637 rc3 (c_X3_setUp θ l N h3) ⟨rfl, rfl, Nat.le_of_ble_eq_true rfl, Nat.le_of_ble_eq_true rfl⟩ rfl hl.1 rfl (Nat.le_of_ble_eq_true rfl) dX3_collect_3 ⟨Nat.zero_le _, Nat.zero_le _⟩ hw) hS (fun H locs hw hS => ?_)
  refine lv_aload_n C.1 C.2.1 dX3_collect_6 rfl (lv_at hl 0 rfl) ?_
  refine lv_iconst (v := 0) C.1 C.2.1 dX3_collect_7 (by decide) ?_
  refine pf_X3_found C hw hS w_539 dX3_collect_8 (fun H locs hw hS => ?_)
  refine lv_iconst (v := 1) C.1 C.2.1 dX3_collect_11 (by decide) ?_
  refine lv_istore_n (lv' := [(3, .int 1), (0, .ref (tad θ 3)), (1, .int x1), (2, .int x2)]) C.1 C.2.1 dX3_collect_12 rfl hl (by decide) rfl (fun ls hl => ?_)
  exact t_X3_collect_13 C N _ _ _ h _ _ ls (lv_sub hl [1, 0] rfl) hw hS
def f_X3_collect (N : Nat) (x1 : Int32) (x2 : Int32) (M : Mm) : Option Mm := b_X3_collect_0 N x1 x2 M
set_option maxRecDepth 100000 in
theorem c_X3_collect (θ : Th) (l : Launch) (N : Nat) {x1 : Int32} {x2 : Int32} {M : Mm} {M1 : Mm} (h : f_X3_collect N x1 x2 M = some M1) : Met l yX3_collect (gws yX3_collect cX3_collect 4 none) rm_X3_collect (va_Pc [.ref (tad θ 3), .int x1, .int x2] (wU θ M)) (qV θ M1) 0 0 (tA θ) :=
  k_met (by decide +kernel) (Nat.le_of_ble_eq_true rfl) (fun p e s m args below meth c C ls hl hw => t_X3_collect_0 C N _ _ _ _ h _ _ ls (lv_sub hl [0, 1, 2] rfl) hw va_S.rf)
