abbrev rm_X1_clear : Room := { frames := 0, cells := 0, slots := 0, locals := 0 }
def J_X1_clear_41 (θ : Th) (p : Program) (l : Launch) (e : Env) (s : State) (m : MethodId) (args : Array Value) (below : List Frame) (meth : Method) (c : Code) (g : Int32 → Int32 → Mm → Option Mm) : Prop := ∀ (x3 : Int32) (x4 : Int32) (M : Mm) (M1 : Mm), g x3 x4 M = some M1 → ∀ (H : Heap) (locs : List Loc) (ls : Array Slot), lv_has ls 5 [(0, .ref (tad θ 1)), (3, .int x3), (4, .int x4)] → wd θ M H → va_S (tA θ) s.heap H locs → W p l e rm_X1_clear s m args below meth c H locs 0 0 (MQ below (qV θ M1) args s 0 0 (tA θ)) (F0 m 41 ls [])
def J_X1_clear_72 (θ : Th) (p : Program) (l : Launch) (e : Env) (s : State) (m : MethodId) (args : Array Value) (below : List Frame) (meth : Method) (c : Code) (g : Int32 → Mm → Option Mm) : Prop := ∀ (x3 : Int32) (M : Mm) (M1 : Mm), g x3 M = some M1 → ∀ (H : Heap) (locs : List Loc) (ls : Array Slot), lv_has ls 5 [(0, .ref (tad θ 1)), (3, .int x3)] → wd θ M H → va_S (tA θ) s.heap H locs → W p l e rm_X1_clear s m args below meth c H locs 0 0 (MQ below (qV θ M1) args s 0 0 (tA θ)) (F0 m 72 ls [])
def J_X1_clear_12 (θ : Th) (p : Program) (l : Launch) (e : Env) (s : State) (m : MethodId) (args : Array Value) (below : List Frame) (meth : Method) (c : Code) (g : Int32 → Mm → Option Mm) : Prop := ∀ (x3 : Int32) (M : Mm) (M1 : Mm), g x3 M = some M1 → ∀ (H : Heap) (locs : List Loc) (ls : Array Slot), lv_has ls 5 [(0, .ref (tad θ 1)), (3, .int x3)] → wd θ M H → va_S (tA θ) s.heap H locs → W p l e rm_X1_clear s m args below meth c H locs 0 0 (MQ below (qV θ M1) args s 0 0 (tA θ)) (F0 m 12 ls [])
def J_X1_clear_0 (θ : Th) (p : Program) (l : Launch) (e : Env) (s : State) (m : MethodId) (args : Array Value) (below : List Frame) (meth : Method) (c : Code) (g : Int32 → Int32 → Mm → Option Mm) : Prop := ∀ (x1 : Int32) (x2 : Int32) (M : Mm) (M1 : Mm), g x1 x2 M = some M1 → ∀ (H : Heap) (locs : List Loc) (ls : Array Slot), lv_has ls 5 [(0, .ref (tad θ 1)), (1, .int x1), (2, .int x2)] → wd θ M H → va_S (tA θ) s.heap H locs → W p l e rm_X1_clear s m args below meth c H locs 0 0 (MQ below (qV θ M1) args s 0 0 (tA θ)) (F0 m 0 ls [])
def F_X1_clear_41 (N : Nat) (k12 : Int32 → Mm → Option Mm) (k41 : Int32 → Int32 → Mm → Option Mm) (x3 : Int32) (x4 : Int32) (M : Mm) : Option Mm :=
  (if 6 ≤ x4 then k12 (x3 + 1) M else (rO 0 x3).bind fun v53 => (wL M v53 x4 0).bind fun M57 => k41 x3 (x4 + 1) M57)
abbrev b_X1_clear_41 (N : Nat) (k12 : Int32 → Mm → Option Mm) : Int32 → Int32 → Mm → Option Mm := lpT (fun _ _ _ => none) (F_X1_clear_41 N k12) N
set_option maxRecDepth 100000 in
set_option maxHeartbeats 4000000 in
theorem tF_X1_clear_41 {θ : Th} {p : Program} {l : Launch} {e : Env} {s : State} {m : MethodId} {args : Array Value} {below : List Frame} {meth : Method} {c : Code} (C : Cx θ p s m args meth c cX1_clear 5 RX1 none) (N : Nat) {k12 : Int32 → Mm → Option Mm} (hk12 : J_X1_clear_12 θ p l e s m args below meth c k12) {k41 : Int32 → Int32 → Mm → Option Mm} (hk41 : J_X1_clear_41 θ p l e s m args below meth c k41) : J_X1_clear_41 θ p l e s m args below meth c (F_X1_clear_41 N k12 k41) := by
  intro x3 x4 M M1 h H locs ls hl hw hS
  unfold F_X1_clear_41 at h
  refine lv_iload C.1 C.2.1 dX1_clear_41 (lv_at hl 2 rfl) ?_
  refine lv_bipush (v := 6) C.1 C.2.1 dX1_clear_43 (by decide) ?_
  refine lv_icmp_ge (tgt := 64) C.1 C.2.1 dX1_clear_45 (by decide) (fun c45 => ?_) (fun c45 => ?_)
  · have h := it_t c45 h
    refine lv_iinc (v := (x3 + 1)) (lv' := [(3, .int (x3 + 1)), (0, .ref (tad θ 1)), (4, .int x4)]) C.1 C.2.1 dX1_clear_64 hl (k := 1) rfl rfl (by decide) rfl (fun ls hl => ?_)
    refine lv_goto (tgt := 12) C.1 C.2.1 dX1_clear_67 (by decide) ?_
    exact hk12 _ _ _ h _ _ ls (lv_sub hl [1, 0] rfl) hw hS
  · have h := it_f c45 h
    refine lv_aload_n C.1 C.2.1 dX1_clear_48 rfl (lv_at hl 0 rfl) ?_
    refine gf_X1_entries C hw w_79 dX1_clear_49 ?_
    refine lv_iload_n C.1 C.2.1 dX1_clear_52 rfl (lv_at hl 1 rfl) ?_
    obtain ⟨v53, h53, h⟩ := bind_s h
    refine k_aald C hw 0 (by decide) h53 dX1_clear_53 ?_
    refine lv_iload C.1 C.2.1 dX1_clear_54 (lv_at hl 2 rfl) ?_
    refine lv_lconst (v := 0) C.1 C.2.1 dX1_clear_56 (by decide) ?_
    obtain ⟨M57, h57, h⟩ := bind_s h
    refine k_last C hw hS v53 h57 dX1_clear_57 (fun H locs hw hS => ?_)
    refine lv_iinc (v := (x4 + 1)) (lv' := [(4, .int (x4 + 1)), (0, .ref (tad θ 1)), (3, .int x3)]) C.1 C.2.1 dX1_clear_58 hl (k := 2) rfl rfl (by decide) rfl (fun ls hl => ?_)
    refine lv_goto (tgt := 41) C.1 C.2.1 dX1_clear_61 (by decide) ?_
    exact hk41 _ _ _ _ h _ _ ls (lv_sub hl [1, 2, 0] rfl) hw hS
theorem t_X1_clear_41 {θ : Th} {p : Program} {l : Launch} {e : Env} {s : State} {m : MethodId} {args : Array Value} {below : List Frame} {meth : Method} {c : Code} (C : Cx θ p s m args meth c cX1_clear 5 RX1 none) (N : Nat) {k12 : Int32 → Mm → Option Mm} (hk12 : J_X1_clear_12 θ p l e s m args below meth c k12) : J_X1_clear_41 θ p l e s m args below meth c (b_X1_clear_41 N k12) := lpT_ind (J := J_X1_clear_41 θ p l e s m args below meth c) (fun _ _ _ _ h => by cases h) (fun k hk => tF_X1_clear_41 C N hk12 hk) N
def F_X1_clear_72 (N : Nat) (k72 : Int32 → Mm → Option Mm) (x3 : Int32) (M : Mm) : Option Mm :=
  (if 4 ≤ x3 then some M else (wA M 3 x3 0).bind fun M83 => k72 (x3 + 1) M83)
abbrev b_X1_clear_72 (N : Nat) : Int32 → Mm → Option Mm := lpT (fun _ _ => none) (F_X1_clear_72 N) N
set_option maxRecDepth 100000 in
set_option maxHeartbeats 4000000 in
theorem tF_X1_clear_72 {θ : Th} {p : Program} {l : Launch} {e : Env} {s : State} {m : MethodId} {args : Array Value} {below : List Frame} {meth : Method} {c : Code} (C : Cx θ p s m args meth c cX1_clear 5 RX1 none) (N : Nat) {k72 : Int32 → Mm → Option Mm} (hk72 : J_X1_clear_72 θ p l e s m args below meth c k72) : J_X1_clear_72 θ p l e s m args below meth c (F_X1_clear_72 N k72) := by
  intro x3 M M1 h H locs ls hl hw hS
  unfold F_X1_clear_72 at h
  refine lv_iload_n C.1 C.2.1 dX1_clear_72 rfl (lv_at hl 1 rfl) ?_
  refine lv_iconst (v := 4) C.1 C.2.1 dX1_clear_73 (by decide) ?_
  refine lv_icmp_ge (tgt := 90) C.1 C.2.1 dX1_clear_74 (by decide) (fun c74 => ?_) (fun c74 => ?_)
  · have h := it_t c74 h
    cases h
    exact k_retv C hw hS dX1_clear_90
  · have h := it_f c74 h
    refine lv_aload_n C.1 C.2.1 dX1_clear_77 rfl (lv_at hl 0 rfl) ?_
    refine gf_X1_wants C hw w_83 dX1_clear_78 ?_
    refine lv_iload_n C.1 C.2.1 dX1_clear_81 rfl (lv_at hl 1 rfl) ?_
    refine lv_iconst (v := 0) C.1 C.2.1 dX1_clear_82 (by decide) ?_
    obtain ⟨M83, h83, h⟩ := bind_s h
    refine k_iast C hw hS 3 (by decide) h83 dX1_clear_83 (fun H locs hw hS => ?_)
    refine lv_iinc (v := (x3 + 1)) (lv' := [(3, .int (x3 + 1)), (0, .ref (tad θ 1))]) C.1 C.2.1 dX1_clear_84 hl (k := 1) rfl rfl (by decide) rfl (fun ls hl => ?_)
    refine lv_goto (tgt := 72) C.1 C.2.1 dX1_clear_87 (by decide) ?_
    exact hk72 _ _ _ h _ _ ls (lv_sub hl [1, 0] rfl) hw hS
theorem t_X1_clear_72 {θ : Th} {p : Program} {l : Launch} {e : Env} {s : State} {m : MethodId} {args : Array Value} {below : List Frame} {meth : Method} {c : Code} (C : Cx θ p s m args meth c cX1_clear 5 RX1 none) (N : Nat) : J_X1_clear_72 θ p l e s m args below meth c (b_X1_clear_72 N) := lpT_ind (J := J_X1_clear_72 θ p l e s m args below meth c) (fun _ _ _ h => by cases h) (fun k hk => tF_X1_clear_72 C N hk) N
def F_X1_clear_12 (N : Nat) (k12 : Int32 → Mm → Option Mm) (x3 : Int32) (M : Mm) : Option Mm :=
  (if 3 ≤ x3 then b_X1_clear_72 N 0 M else (wA M 0 x3 0).bind fun M23 => (wA M23 1 x3 0).bind fun M30 => (wA M30 2 x3 0).bind fun M37 => b_X1_clear_41 N k12 x3 0 M37)
abbrev b_X1_clear_12 (N : Nat) : Int32 → Mm → Option Mm := lpT (fun _ _ => none) (F_X1_clear_12 N) N
set_option maxRecDepth 100000 in
set_option maxHeartbeats 4000000 in
theorem tF_X1_clear_12 {θ : Th} {p : Program} {l : Launch} {e : Env} {s : State} {m : MethodId} {args : Array Value} {below : List Frame} {meth : Method} {c : Code} (C : Cx θ p s m args meth c cX1_clear 5 RX1 none) (N : Nat) {k12 : Int32 → Mm → Option Mm} (hk12 : J_X1_clear_12 θ p l e s m args below meth c k12) : J_X1_clear_12 θ p l e s m args below meth c (F_X1_clear_12 N k12) := by
  intro x3 M M1 h H locs ls hl hw hS
  unfold F_X1_clear_12 at h
  refine lv_iload_n C.1 C.2.1 dX1_clear_12 rfl (lv_at hl 1 rfl) ?_
  refine lv_iconst (v := 3) C.1 C.2.1 dX1_clear_13 (by decide) ?_
  refine lv_icmp_ge (tgt := 70) C.1 C.2.1 dX1_clear_14 (by decide) (fun c14 => ?_) (fun c14 => ?_)
  · have h := it_t c14 h
    refine lv_iconst (v := 0) C.1 C.2.1 dX1_clear_70 (by decide) ?_
    refine lv_istore_n (lv' := [(3, .int 0), (0, .ref (tad θ 1))]) C.1 C.2.1 dX1_clear_71 rfl hl (by decide) rfl (fun ls hl => ?_)
    exact t_X1_clear_72 C N _ _ _ h _ _ ls (lv_sub hl [1, 0] rfl) hw hS
  · have h := it_f c14 h
    refine lv_aload_n C.1 C.2.1 dX1_clear_17 rfl (lv_at hl 0 rfl) ?_
    refine gf_X1_senses C hw w_80 dX1_clear_18 ?_
    refine lv_iload_n C.1 C.2.1 dX1_clear_21 rfl (lv_at hl 1 rfl) ?_
    refine lv_iconst (v := 0) C.1 C.2.1 dX1_clear_22 (by decide) ?_
    obtain ⟨M23, h23, h⟩ := bind_s h
    refine k_iast C hw hS 0 (by decide) h23 dX1_clear_23 (fun H locs hw hS => ?_)
    refine lv_aload_n C.1 C.2.1 dX1_clear_24 rfl (lv_at hl 0 rfl) ?_
    refine gf_X1_rights C hw w_81 dX1_clear_25 ?_
    refine lv_iload_n C.1 C.2.1 dX1_clear_28 rfl (lv_at hl 1 rfl) ?_
    refine lv_iconst (v := 0) C.1 C.2.1 dX1_clear_29 (by decide) ?_
    obtain ⟨M30, h30, h⟩ := bind_s h
    refine k_iast C hw hS 1 (by decide) h30 dX1_clear_30 (fun H locs hw hS => ?_)
    refine lv_aload_n C.1 C.2.1 dX1_clear_31 rfl (lv_at hl 0 rfl) ?_
    refine gf_X1_drifts C hw w_82 dX1_clear_32 ?_
    refine lv_iload_n C.1 C.2.1 dX1_clear_35 rfl (lv_at hl 1 rfl) ?_
    refine lv_iconst (v := 0) C.1 C.2.1 dX1_clear_36 (by decide) ?_
    obtain ⟨M37, h37, h⟩ := bind_s h
    refine k_iast C hw hS 2 (by decide) h37 dX1_clear_37 (fun H locs hw hS => ?_)
    refine lv_iconst (v := 0) C.1 C.2.1 dX1_clear_38 (by decide) ?_
    refine lv_istore (lv' := [(4, .int 0), (0, .ref (tad θ 1)), (3, .int x3)]) C.1 C.2.1 dX1_clear_39 hl (by decide) rfl (fun ls hl => ?_)
    exact t_X1_clear_41 C N hk12 _ _ _ _ h _ _ ls (lv_sub hl [1, 2, 0] rfl) hw hS
theorem t_X1_clear_12 {θ : Th} {p : Program} {l : Launch} {e : Env} {s : State} {m : MethodId} {args : Array Value} {below : List Frame} {meth : Method} {c : Code} (C : Cx θ p s m args meth c cX1_clear 5 RX1 none) (N : Nat) : J_X1_clear_12 θ p l e s m args below meth c (b_X1_clear_12 N) := lpT_ind (J := J_X1_clear_12 θ p l e s m args below meth c) (fun _ _ _ h => by cases h) (fun k hk => tF_X1_clear_12 C N hk) N
def b_X1_clear_0 (N : Nat) (x1 : Int32) (x2 : Int32) (M : Mm) : Option Mm :=
  b_X1_clear_12 N 0 (wI (wI M 0 x1) 1 x2)
set_option maxRecDepth 100000 in
set_option maxHeartbeats 4000000 in
theorem t_X1_clear_0 {θ : Th} {p : Program} {l : Launch} {e : Env} {s : State} {m : MethodId} {args : Array Value} {below : List Frame} {meth : Method} {c : Code} (C : Cx θ p s m args meth c cX1_clear 5 RX1 none) (N : Nat) : J_X1_clear_0 θ p l e s m args below meth c (b_X1_clear_0 N) := by
  intro x1 x2 M M1 h H locs ls hl hw hS
  unfold b_X1_clear_0 at h
  refine lv_aload_n C.1 C.2.1 dX1_clear_0 rfl (lv_at hl 0 rfl) ?_
  refine lv_iload_n C.1 C.2.1 dX1_clear_1 rfl (lv_at hl 1 rfl) ?_
  refine pf_X1_variables C hw hS w_74 dX1_clear_2 (fun H locs hw hS => ?_)
  refine lv_aload_n C.1 C.2.1 dX1_clear_5 rfl (lv_at hl 0 rfl) ?_
  refine lv_iload_n C.1 C.2.1 dX1_clear_6 rfl (lv_at hl 2 rfl) ?_
  refine pf_X1_rows C hw hS w_76 dX1_clear_7 (fun H locs hw hS => ?_)
  refine lv_iconst (v := 0) C.1 C.2.1 dX1_clear_10 (by decide) ?_
  refine lv_istore_n (lv' := [(3, .int 0), (0, .ref (tad θ 1)), (1, .int x1), (2, .int x2)]) C.1 C.2.1 dX1_clear_11 rfl hl (by decide) rfl (fun ls hl => ?_)
  exact t_X1_clear_12 C N _ _ _ h _ _ ls (lv_sub hl [1, 0] rfl) hw hS
def f_X1_clear (N : Nat) (x1 : Int32) (x2 : Int32) (M : Mm) : Option Mm := b_X1_clear_0 N x1 x2 M
set_option maxRecDepth 100000 in
theorem c_X1_clear (θ : Th) (l : Launch) (N : Nat) {x1 : Int32} {x2 : Int32} {M : Mm} {M1 : Mm} (h : f_X1_clear N x1 x2 M = some M1) : Met l yX1_clear (gws yX1_clear cX1_clear 5 none) rm_X1_clear (va_Pc [.ref (tad θ 1), .int x1, .int x2] (wU θ M)) (qV θ M1) 0 0 (tA θ) :=
  k_met (by decide +kernel) (Nat.le_of_ble_eq_true rfl) (fun p e s m args below meth c C ls hl hw => t_X1_clear_0 C N _ _ _ _ h _ _ ls (lv_sub hl [0, 1, 2] rfl) hw va_S.rf)
abbrev rm_X1_setFactor : Room := { frames := 0, cells := 0, slots := 0, locals := 0 }
def J_X1_setFactor_0 (θ : Th) (p : Program) (l : Launch) (e : Env) (s : State) (m : MethodId) (args : Array Value) (below : List Frame) (meth : Method) (c : Code) (g : Int32 → Int32 → Int32 → Mm → Option Mm) : Prop := ∀ (x1 : Int32) (x2 : Int32) (x3 : Int32) (M : Mm) (M1 : Mm), g x1 x2 x3 M = some M1 → ∀ (H : Heap) (locs : List Loc) (ls : Array Slot), lv_has ls 4 [(0, .ref (tad θ 1)), (1, .int x1), (2, .int x2), (3, .int x3)] → wd θ M H → va_S (tA θ) s.heap H locs → W p l e rm_X1_setFactor s m args below meth c H locs 0 0 (MQ below (qV θ M1) args s 0 0 (tA θ)) (F0 m 0 ls [])
def b_X1_setFactor_0 (N : Nat) (x1 : Int32) (x2 : Int32) (x3 : Int32) (M : Mm) : Option Mm :=
  (rO 0 x1).bind fun v5 => (wL M v5 (2 + x2) (Int32.toInt64 x3)).bind fun M11 => some M11
set_option maxRecDepth 100000 in
set_option maxHeartbeats 4000000 in
theorem t_X1_setFactor_0 {θ : Th} {p : Program} {l : Launch} {e : Env} {s : State} {m : MethodId} {args : Array Value} {below : List Frame} {meth : Method} {c : Code} (C : Cx θ p s m args meth c cX1_setFactor 4 RX1 none) (N : Nat) : J_X1_setFactor_0 θ p l e s m args below meth c (b_X1_setFactor_0 N) := by
  intro x1 x2 x3 M M1 h H locs ls hl hw hS
  unfold b_X1_setFactor_0 at h
  refine lv_aload_n C.1 C.2.1 dX1_setFactor_0 rfl (lv_at hl 0 rfl) ?_
  refine gf_X1_entries C hw w_79 dX1_setFactor_1 ?_
  refine lv_iload_n C.1 C.2.1 dX1_setFactor_4 rfl (lv_at hl 1 rfl) ?_
  obtain ⟨v5, h5, h⟩ := bind_s h
  refine k_aald C hw 0 (by decide) h5 dX1_setFactor_5 ?_
  refine lv_iconst (v := 2) C.1 C.2.1 dX1_setFactor_6 (by decide) ?_
  refine lv_iload_n C.1 C.2.1 dX1_setFactor_7 rfl (lv_at hl 2 rfl) ?_
  refine lv_iadd C.1 C.2.1 dX1_setFactor_8 ?_
  refine lv_iload_n C.1 C.2.1 dX1_setFactor_9 rfl (lv_at hl 3 rfl) ?_
  refine lv_i2l (v := (Int32.toInt64 x3)) C.1 C.2.1 dX1_setFactor_10 rfl ?_
  obtain ⟨M11, h11, h⟩ := bind_s h
  refine k_last C hw hS v5 h11 dX1_setFactor_11 (fun H locs hw hS => ?_)
  cases h
  exact k_retv C hw hS dX1_setFactor_12
def f_X1_setFactor (N : Nat) (x1 : Int32) (x2 : Int32) (x3 : Int32) (M : Mm) : Option Mm := b_X1_setFactor_0 N x1 x2 x3 M
set_option maxRecDepth 100000 in
theorem c_X1_setFactor (θ : Th) (l : Launch) (N : Nat) {x1 : Int32} {x2 : Int32} {x3 : Int32} {M : Mm} {M1 : Mm} (h : f_X1_setFactor N x1 x2 x3 M = some M1) : Met l yX1_setFactor (gws yX1_setFactor cX1_setFactor 4 none) rm_X1_setFactor (va_Pc [.ref (tad θ 1), .int x1, .int x2, .int x3] (wU θ M)) (qV θ M1) 0 0 (tA θ) :=
  k_met (by decide +kernel) (Nat.le_of_ble_eq_true rfl) (fun p e s m args below meth c C ls hl hw => t_X1_setFactor_0 C N _ _ _ _ _ h _ _ ls (lv_sub hl [0, 1, 2, 3] rfl) hw va_S.rf)
abbrev rm_X1_setWant : Room := { frames := 0, cells := 0, slots := 0, locals := 0 }
def J_X1_setWant_0 (θ : Th) (p : Program) (l : Launch) (e : Env) (s : State) (m : MethodId) (args : Array Value) (below : List Frame) (meth : Method) (c : Code) (g : Int32 → Int32 → Mm → Option Mm) : Prop := ∀ (x1 : Int32) (x2 : Int32) (M : Mm) (M1 : Mm), g x1 x2 M = some M1 → ∀ (H : Heap) (locs : List Loc) (ls : Array Slot), lv_has ls 3 [(0, .ref (tad θ 1)), (1, .int x1), (2, .int x2)] → wd θ M H → va_S (tA θ) s.heap H locs → W p l e rm_X1_setWant s m args below meth c H locs 0 0 (MQ below (qV θ M1) args s 0 0 (tA θ)) (F0 m 0 ls [])
def b_X1_setWant_0 (N : Nat) (x1 : Int32) (x2 : Int32) (M : Mm) : Option Mm :=
  (wA M 3 x1 x2).bind fun M6 => some M6
set_option maxRecDepth 100000 in
set_option maxHeartbeats 4000000 in
theorem t_X1_setWant_0 {θ : Th} {p : Program} {l : Launch} {e : Env} {s : State} {m : MethodId} {args : Array Value} {below : List Frame} {meth : Method} {c : Code} (C : Cx θ p s m args meth c cX1_setWant 3 RX1 none) (N : Nat) : J_X1_setWant_0 θ p l e s m args below meth c (b_X1_setWant_0 N) := by
  intro x1 x2 M M1 h H locs ls hl hw hS
  unfold b_X1_setWant_0 at h
  refine lv_aload_n C.1 C.2.1 dX1_setWant_0 rfl (lv_at hl 0 rfl) ?_
  refine gf_X1_wants C hw w_83 dX1_setWant_1 ?_
  refine lv_iload_n C.1 C.2.1 dX1_setWant_4 rfl (lv_at hl 1 rfl) ?_
  refine lv_iload_n C.1 C.2.1 dX1_setWant_5 rfl (lv_at hl 2 rfl) ?_
  obtain ⟨M6, h6, h⟩ := bind_s h
  refine k_iast C hw hS 3 (by decide) h6 dX1_setWant_6 (fun H locs hw hS => ?_)
  cases h
  exact k_retv C hw hS dX1_setWant_7
def f_X1_setWant (N : Nat) (x1 : Int32) (x2 : Int32) (M : Mm) : Option Mm := b_X1_setWant_0 N x1 x2 M
set_option maxRecDepth 100000 in
theorem c_X1_setWant (θ : Th) (l : Launch) (N : Nat) {x1 : Int32} {x2 : Int32} {M : Mm} {M1 : Mm} (h : f_X1_setWant N x1 x2 M = some M1) : Met l yX1_setWant (gws yX1_setWant cX1_setWant 3 none) rm_X1_setWant (va_Pc [.ref (tad θ 1), .int x1, .int x2] (wU θ M)) (qV θ M1) 0 0 (tA θ) :=
  k_met (by decide +kernel) (Nat.le_of_ble_eq_true rfl) (fun p e s m args below meth c C ls hl hw => t_X1_setWant_0 C N _ _ _ _ h _ _ ls (lv_sub hl [0, 1, 2] rfl) hw va_S.rf)
abbrev rm_X1_enterRight : Room := { frames := 0, cells := 0, slots := 0, locals := 0 }
def J_X1_enterRight_0 (θ : Th) (p : Program) (l : Launch) (e : Env) (s : State) (m : MethodId) (args : Array Value) (below : List Frame) (meth : Method) (c : Code) (g : Int32 → Mm → Option Mm) : Prop := ∀ (x1 : Int32) (M : Mm) (M1 : Mm), g x1 M = some M1 → ∀ (H : Heap) (locs : List Loc) (ls : Array Slot), lv_has ls 2 [(0, .ref (tad θ 1)), (1, .int x1)] → wd θ M H → va_S (tA θ) s.heap H locs → W p l e rm_X1_enterRight s m args below meth c H locs 0 0 (MQ below (qV θ M1) args s 0 0 (tA θ)) (F0 m 0 ls [])
def b_X1_enterRight_0 (N : Nat) (x1 : Int32) (M : Mm) : Option Mm :=
  (rO 0 x1).bind fun v5 => (rA M 1 x1).bind fun v12 => (wL M v5 0 (Int32.toInt64 (-v12))).bind fun M15 => (rO 0 x1).bind fun v21 => (rA M15 1 x1).bind fun v28 => (rA M15 2 x1).bind fun v35 => (wL M15 v21 1 (Int32.toInt64 ((-v28) - v35))).bind fun M38 => some M38
set_option maxRecDepth 100000 in
set_option maxHeartbeats 4000000 in
theorem t_X1_enterRight_0 {θ : Th} {p : Program} {l : Launch} {e : Env} {s : State} {m : MethodId} {args : Array Value} {below : List Frame} {meth : Method} {c : Code} (C : Cx θ p s m args meth c cX1_enterRight 2 RX1 none) (N : Nat) : J_X1_enterRight_0 θ p l e s m args below meth c (b_X1_enterRight_0 N) := by
  intro x1 M M1 h H locs ls hl hw hS
  unfold b_X1_enterRight_0 at h
  refine lv_aload_n C.1 C.2.1 dX1_enterRight_0 rfl (lv_at hl 0 rfl) ?_
  refine gf_X1_entries C hw w_79 dX1_enterRight_1 ?_
  refine lv_iload_n C.1 C.2.1 dX1_enterRight_4 rfl (lv_at hl 1 rfl) ?_
  obtain ⟨v5, h5, h⟩ := bind_s h
  refine k_aald C hw 0 (by decide) h5 dX1_enterRight_5 ?_
  refine lv_iconst (v := 0) C.1 C.2.1 dX1_enterRight_6 (by decide) ?_
  refine lv_aload_n C.1 C.2.1 dX1_enterRight_7 rfl (lv_at hl 0 rfl) ?_
  refine gf_X1_rights C hw w_81 dX1_enterRight_8 ?_
  refine lv_iload_n C.1 C.2.1 dX1_enterRight_11 rfl (lv_at hl 1 rfl) ?_
  obtain ⟨v12, h12, h⟩ := bind_s h
  refine k_iald C hw 1 (by decide) h12 dX1_enterRight_12 ?_
  refine lv_ineg C.1 C.2.1 dX1_enterRight_13 ?_
  refine lv_i2l (v := (Int32.toInt64 (-v12))) C.1 C.2.1 dX1_enterRight_14 rfl ?_
  obtain ⟨M15, h15, h⟩ := bind_s h
  refine k_last C hw hS v5 h15 dX1_enterRight_15 (fun H locs hw hS => ?_)
  refine lv_aload_n C.1 C.2.1 dX1_enterRight_16 rfl (lv_at hl 0 rfl) ?_
  refine gf_X1_entries C hw w_79 dX1_enterRight_17 ?_
  refine lv_iload_n C.1 C.2.1 dX1_enterRight_20 rfl (lv_at hl 1 rfl) ?_
  obtain ⟨v21, h21, h⟩ := bind_s h
  refine k_aald C hw 0 (by decide) h21 dX1_enterRight_21 ?_
  refine lv_iconst (v := 1) C.1 C.2.1 dX1_enterRight_22 (by decide) ?_
  refine lv_aload_n C.1 C.2.1 dX1_enterRight_23 rfl (lv_at hl 0 rfl) ?_
  refine gf_X1_rights C hw w_81 dX1_enterRight_24 ?_
  refine lv_iload_n C.1 C.2.1 dX1_enterRight_27 rfl (lv_at hl 1 rfl) ?_
  obtain ⟨v28, h28, h⟩ := bind_s h
  refine k_iald C hw 1 (by decide) h28 dX1_enterRight_28 ?_
  refine lv_ineg C.1 C.2.1 dX1_enterRight_29 ?_
  refine lv_aload_n C.1 C.2.1 dX1_enterRight_30 rfl (lv_at hl 0 rfl) ?_
  refine gf_X1_drifts C hw w_82 dX1_enterRight_31 ?_
  refine lv_iload_n C.1 C.2.1 dX1_enterRight_34 rfl (lv_at hl 1 rfl) ?_
  obtain ⟨v35, h35, h⟩ := bind_s h
  refine k_iald C hw 2 (by decide) h35 dX1_enterRight_35 ?_
  refine lv_isub C.1 C.2.1 dX1_enterRight_36 ?_
  refine lv_i2l (v := (Int32.toInt64 ((-v28) - v35))) C.1 C.2.1 dX1_enterRight_37 rfl ?_
  obtain ⟨M38, h38, h⟩ := bind_s h
  refine k_last C hw hS v21 h38 dX1_enterRight_38 (fun H locs hw hS => ?_)
  cases h
  exact k_retv C hw hS dX1_enterRight_39
def f_X1_enterRight (N : Nat) (x1 : Int32) (M : Mm) : Option Mm := b_X1_enterRight_0 N x1 M
set_option maxRecDepth 100000 in
theorem c_X1_enterRight (θ : Th) (l : Launch) (N : Nat) {x1 : Int32} {M : Mm} {M1 : Mm} (h : f_X1_enterRight N x1 M = some M1) : Met l yX1_enterRight (gws yX1_enterRight cX1_enterRight 2 none) rm_X1_enterRight (va_Pc [.ref (tad θ 1), .int x1] (wU θ M)) (qV θ M1) 0 0 (tA θ) :=
  k_met (by decide +kernel) (Nat.le_of_ble_eq_true rfl) (fun p e s m args below meth c C ls hl hw => t_X1_enterRight_0 C N _ _ _ h _ _ ls (lv_sub hl [0, 1] rfl) hw va_S.rf)
abbrev rm_X1_setRow : Room := { frames := 1, cells := 0, slots := 0, locals := 21 }
def J_X1_setRow_0 (θ : Th) (p : Program) (l : Launch) (e : Env) (s : State) (m : MethodId) (args : Array Value) (below : List Frame) (meth : Method) (c : Code) (g : Int32 → Int32 → Int32 → Mm → Option Mm) : Prop := ∀ (x1 : Int32) (x2 : Int32) (x3 : Int32) (M : Mm) (M1 : Mm), g x1 x2 x3 M = some M1 → ∀ (H : Heap) (locs : List Loc) (ls : Array Slot), lv_has ls 4 [(0, .ref (tad θ 1)), (1, .int x1), (2, .int x2), (3, .int x3)] → wd θ M H → va_S (tA θ) s.heap H locs → W p l e rm_X1_setRow s m args below meth c H locs 0 0 (MQ below (qV θ M1) args s 0 0 (tA θ)) (F0 m 0 ls [])
def b_X1_setRow_0 (N : Nat) (x1 : Int32) (x2 : Int32) (x3 : Int32) (M : Mm) : Option Mm :=
  (wA M 0 x1 x2).bind fun M6 => (wA M6 1 x1 x3).bind fun M13 => (f_X1_enterRight N x1 M13).bind fun M16 => some M16
set_option maxRecDepth 100000 in
set_option maxHeartbeats 4000000 in
theorem t_X1_setRow_0 {θ : Th} {p : Program} {l : Launch} {e : Env} {s : State} {m : MethodId} {args : Array Value} {below : List Frame} {meth : Method} {c : Code} (C : Cx θ p s m args meth c cX1_setRow 4 RX1 none) (N : Nat) : J_X1_setRow_0 θ p l e s m args below meth c (b_X1_setRow_0 N) := by
  intro x1 x2 x3 M M1 h H locs ls hl hw hS
  unfold b_X1_setRow_0 at h
  refine lv_aload_n C.1 C.2.1 dX1_setRow_0 rfl (lv_at hl 0 rfl) ?_
  refine gf_X1_senses C hw w_80 dX1_setRow_1 ?_
  refine lv_iload_n C.1 C.2.1 dX1_setRow_4 rfl (lv_at hl 1 rfl) ?_
  refine lv_iload_n C.1 C.2.1 dX1_setRow_5 rfl (lv_at hl 2 rfl) ?_
  obtain ⟨M6, h6, h⟩ := bind_s h
  refine k_iast C hw hS 0 (by decide) h6 dX1_setRow_6 (fun H locs hw hS => ?_)
  refine lv_aload_n C.1 C.2.1 dX1_setRow_7 rfl (lv_at hl 0 rfl) ?_
  refine gf_X1_rights C hw w_81 dX1_setRow_8 ?_
  refine lv_iload_n C.1 C.2.1 dX1_setRow_11 rfl (lv_at hl 1 rfl) ?_
  refine lv_iload_n C.1 C.2.1 dX1_setRow_12 rfl (lv_at hl 3 rfl) ?_
  obtain ⟨M13, h13, h⟩ := bind_s h
  refine k_iast C hw hS 1 (by decide) h13 dX1_setRow_13 (fun H locs hw hS => ?_)
  refine lv_aload_n C.1 C.2.1 dX1_setRow_14 rfl (lv_at hl 0 rfl) ?_
  refine lv_iload_n C.1 C.2.1 dX1_setRow_15 rfl (lv_at hl 1 rfl) ?_
  obtain ⟨M16, h16, h⟩ := bind_s h
  refine k_cv (k_runV (As := [.int x1]) C cf_X1_enterRight cv_X1_enterRight w_378 rc1 (c_X1_enterRight θ l N h16) ⟨rfl, rfl, Nat.le_of_ble_eq_true rfl, Nat.le_of_ble_eq_true rfl⟩ rfl hl.1 rfl (Nat.le_of_ble_eq_true rfl) dX1_setRow_16 ⟨Nat.zero_le _, Nat.zero_le _⟩ hw) hS (fun H locs hw hS => ?_)
  cases h
  exact k_retv C hw hS dX1_setRow_19
def f_X1_setRow (N : Nat) (x1 : Int32) (x2 : Int32) (x3 : Int32) (M : Mm) : Option Mm := b_X1_setRow_0 N x1 x2 x3 M
set_option maxRecDepth 100000 in
theorem c_X1_setRow (θ : Th) (l : Launch) (N : Nat) {x1 : Int32} {x2 : Int32} {x3 : Int32} {M : Mm} {M1 : Mm} (h : f_X1_setRow N x1 x2 x3 M = some M1) : Met l yX1_setRow (gws yX1_setRow cX1_setRow 4 none) rm_X1_setRow (va_Pc [.ref (tad θ 1), .int x1, .int x2, .int x3] (wU θ M)) (qV θ M1) 0 0 (tA θ) :=
  k_met (by decide +kernel) (Nat.le_of_ble_eq_true rfl) (fun p e s m args below meth c C ls hl hw => t_X1_setRow_0 C N _ _ _ _ _ h _ _ ls (lv_sub hl [0, 1, 2, 3] rfl) hw va_S.rf)
abbrev rm_X1_setDrift : Room := { frames := 1, cells := 0, slots := 0, locals := 21 }
def J_X1_setDrift_0 (θ : Th) (p : Program) (l : Launch) (e : Env) (s : State) (m : MethodId) (args : Array Value) (below : List Frame) (meth : Method) (c : Code) (g : Int32 → Int32 → Mm → Option Mm) : Prop := ∀ (x1 : Int32) (x2 : Int32) (M : Mm) (M1 : Mm), g x1 x2 M = some M1 → ∀ (H : Heap) (locs : List Loc) (ls : Array Slot), lv_has ls 3 [(0, .ref (tad θ 1)), (1, .int x1), (2, .int x2)] → wd θ M H → va_S (tA θ) s.heap H locs → W p l e rm_X1_setDrift s m args below meth c H locs 0 0 (MQ below (qV θ M1) args s 0 0 (tA θ)) (F0 m 0 ls [])
def b_X1_setDrift_0 (N : Nat) (x1 : Int32) (x2 : Int32) (M : Mm) : Option Mm :=
  (wA M 2 x1 x2).bind fun M6 => (f_X1_enterRight N x1 M6).bind fun M9 => some M9
set_option maxRecDepth 100000 in
set_option maxHeartbeats 4000000 in
theorem t_X1_setDrift_0 {θ : Th} {p : Program} {l : Launch} {e : Env} {s : State} {m : MethodId} {args : Array Value} {below : List Frame} {meth : Method} {c : Code} (C : Cx θ p s m args meth c cX1_setDrift 3 RX1 none) (N : Nat) : J_X1_setDrift_0 θ p l e s m args below meth c (b_X1_setDrift_0 N) := by
  intro x1 x2 M M1 h H locs ls hl hw hS
  unfold b_X1_setDrift_0 at h
  refine lv_aload_n C.1 C.2.1 dX1_setDrift_0 rfl (lv_at hl 0 rfl) ?_
  refine gf_X1_drifts C hw w_82 dX1_setDrift_1 ?_
  refine lv_iload_n C.1 C.2.1 dX1_setDrift_4 rfl (lv_at hl 1 rfl) ?_
  refine lv_iload_n C.1 C.2.1 dX1_setDrift_5 rfl (lv_at hl 2 rfl) ?_
  obtain ⟨M6, h6, h⟩ := bind_s h
  refine k_iast C hw hS 2 (by decide) h6 dX1_setDrift_6 (fun H locs hw hS => ?_)
  refine lv_aload_n C.1 C.2.1 dX1_setDrift_7 rfl (lv_at hl 0 rfl) ?_
  refine lv_iload_n C.1 C.2.1 dX1_setDrift_8 rfl (lv_at hl 1 rfl) ?_
  obtain ⟨M9, h9, h⟩ := bind_s h
  refine k_cv (k_runV (As := [.int x1]) C cf_X1_enterRight cv_X1_enterRight w_378 rc1 (c_X1_enterRight θ l N h9) ⟨rfl, rfl, Nat.le_of_ble_eq_true rfl, Nat.le_of_ble_eq_true rfl⟩ rfl hl.1 rfl (Nat.le_of_ble_eq_true rfl) dX1_setDrift_9 ⟨Nat.zero_le _, Nat.zero_le _⟩ hw) hS (fun H locs hw hS => ?_)
  cases h
  exact k_retv C hw hS dX1_setDrift_12
def f_X1_setDrift (N : Nat) (x1 : Int32) (x2 : Int32) (M : Mm) : Option Mm := b_X1_setDrift_0 N x1 x2 M
set_option maxRecDepth 100000 in
theorem c_X1_setDrift (θ : Th) (l : Launch) (N : Nat) {x1 : Int32} {x2 : Int32} {M : Mm} {M1 : Mm} (h : f_X1_setDrift N x1 x2 M = some M1) : Met l yX1_setDrift (gws yX1_setDrift cX1_setDrift 3 none) rm_X1_setDrift (va_Pc [.ref (tad θ 1), .int x1, .int x2] (wU θ M)) (qV θ M1) 0 0 (tA θ) :=
  k_met (by decide +kernel) (Nat.le_of_ble_eq_true rfl) (fun p e s m args below meth c C ls hl hw => t_X1_setDrift_0 C N _ _ _ _ h _ _ ls (lv_sub hl [0, 1, 2] rfl) hw va_S.rf)
abbrev rm_X1_columns : Room := { frames := 0, cells := 0, slots := 0, locals := 0 }
def J_X1_columns_0 (θ : Th) (p : Program) (l : Launch) (e : Env) (s : State) (m : MethodId) (args : Array Value) (below : List Frame) (meth : Method) (c : Code) (g : Mm → Option (Int32 × Mm)) : Prop := ∀ (M : Mm) (r : Int32) (M1 : Mm), g M = some (r, M1) → ∀ (H : Heap) (locs : List Loc) (ls : Array Slot), lv_has ls 1 [(0, .ref (tad θ 1))] → wd θ M H → va_S (tA θ) s.heap H locs → W p l e rm_X1_columns s m args below meth c H locs 0 0 (MQ below (qI θ r M1) args s 0 0 (tA θ)) (F0 m 0 ls [])
def b_X1_columns_0 (N : Nat) (M : Mm) : Option (Int32 × Mm) :=
  some ((2 + (M.1 0)), M)
set_option maxRecDepth 100000 in
set_option maxHeartbeats 4000000 in
theorem t_X1_columns_0 {θ : Th} {p : Program} {l : Launch} {e : Env} {s : State} {m : MethodId} {args : Array Value} {below : List Frame} {meth : Method} {c : Code} (C : Cx θ p s m args meth c cX1_columns 1 RX1 (some .int)) (N : Nat) : J_X1_columns_0 θ p l e s m args below meth c (b_X1_columns_0 N) := by
  intro M r M1 h H locs ls hl hw hS
  unfold b_X1_columns_0 at h
  refine lv_iconst (v := 2) C.1 C.2.1 dX1_columns_0 (by decide) ?_
  refine lv_aload_n C.1 C.2.1 dX1_columns_1 rfl (lv_at hl 0 rfl) ?_
  refine gf_X1_variables C hw w_74 dX1_columns_2 ?_
  refine lv_iadd C.1 C.2.1 dX1_columns_5 ?_
  cases h
  exact k_reti C hw hS dX1_columns_6
def f_X1_columns (N : Nat) (M : Mm) : Option (Int32 × Mm) := b_X1_columns_0 N M
set_option maxRecDepth 100000 in
theorem c_X1_columns (θ : Th) (l : Launch) (N : Nat) {M : Mm} {r : Int32} {M1 : Mm} (h : f_X1_columns N M = some (r, M1)) : Met l yX1_columns (gws yX1_columns cX1_columns 1 (some .int)) rm_X1_columns (va_Pc [.ref (tad θ 1)] (wU θ M)) (qI θ r M1) 0 0 (tA θ) :=
  k_met (by decide +kernel) (Nat.le_of_ble_eq_true rfl) (fun p e s m args below meth c C ls hl hw => t_X1_columns_0 C N _ _ _ h _ _ ls (lv_sub hl [0] rfl) hw va_S.rf)
abbrev rm_X1_allRows : Room := { frames := 0, cells := 0, slots := 0, locals := 0 }
def J_X1_allRows_0 (θ : Th) (p : Program) (l : Launch) (e : Env) (s : State) (m : MethodId) (args : Array Value) (below : List Frame) (meth : Method) (c : Code) (g : Mm → Option (Int32 × Mm)) : Prop := ∀ (M : Mm) (r : Int32) (M1 : Mm), g M = some (r, M1) → ∀ (H : Heap) (locs : List Loc) (ls : Array Slot), lv_has ls 1 [(0, .ref (tad θ 1))] → wd θ M H → va_S (tA θ) s.heap H locs → W p l e rm_X1_allRows s m args below meth c H locs 0 0 (MQ below (qI θ r M1) args s 0 0 (tA θ)) (F0 m 0 ls [])
def b_X1_allRows_0 (N : Nat) (M : Mm) : Option (Int32 × Mm) :=
  some (((1 <<< ((M.1 1) &&& 31)) - 1), M)
set_option maxRecDepth 100000 in
set_option maxHeartbeats 4000000 in
theorem t_X1_allRows_0 {θ : Th} {p : Program} {l : Launch} {e : Env} {s : State} {m : MethodId} {args : Array Value} {below : List Frame} {meth : Method} {c : Code} (C : Cx θ p s m args meth c cX1_allRows 1 RX1 (some .int)) (N : Nat) : J_X1_allRows_0 θ p l e s m args below meth c (b_X1_allRows_0 N) := by
  intro M r M1 h H locs ls hl hw hS
  unfold b_X1_allRows_0 at h
  refine lv_iconst (v := 1) C.1 C.2.1 dX1_allRows_0 (by decide) ?_
  refine lv_aload_n C.1 C.2.1 dX1_allRows_1 rfl (lv_at hl 0 rfl) ?_
  refine gf_X1_rows C hw w_76 dX1_allRows_2 ?_
  refine lv_ishl C.1 C.2.1 dX1_allRows_5 ?_
  refine lv_iconst (v := 1) C.1 C.2.1 dX1_allRows_6 (by decide) ?_
  refine lv_isub C.1 C.2.1 dX1_allRows_7 ?_
  cases h
  exact k_reti C hw hS dX1_allRows_8
def f_X1_allRows (N : Nat) (M : Mm) : Option (Int32 × Mm) := b_X1_allRows_0 N M
set_option maxRecDepth 100000 in
theorem c_X1_allRows (θ : Th) (l : Launch) (N : Nat) {M : Mm} {r : Int32} {M1 : Mm} (h : f_X1_allRows N M = some (r, M1)) : Met l yX1_allRows (gws yX1_allRows cX1_allRows 1 (some .int)) rm_X1_allRows (va_Pc [.ref (tad θ 1)] (wU θ M)) (qI θ r M1) 0 0 (tA θ) :=
  k_met (by decide +kernel) (Nat.le_of_ble_eq_true rfl) (fun p e s m args below meth c C ls hl hw => t_X1_allRows_0 C N _ _ _ h _ _ ls (lv_sub hl [0] rfl) hw va_S.rf)
abbrev rm_X1_entry : Room := { frames := 0, cells := 0, slots := 0, locals := 0 }
def J_X1_entry_0 (θ : Th) (p : Program) (l : Launch) (e : Env) (s : State) (m : MethodId) (args : Array Value) (below : List Frame) (meth : Method) (c : Code) (g : Int32 → Int32 → Mm → Option (Int64 × Mm)) : Prop := ∀ (x1 : Int32) (x2 : Int32) (M : Mm) (r : Int64) (M1 : Mm), g x1 x2 M = some (r, M1) → ∀ (H : Heap) (locs : List Loc) (ls : Array Slot), lv_has ls 3 [(0, .ref (tad θ 1)), (1, .int x1), (2, .int x2)] → wd θ M H → va_S (tA θ) s.heap H locs → W p l e rm_X1_entry s m args below meth c H locs 0 0 (MQ below (qL θ r M1) args s 0 0 (tA θ)) (F0 m 0 ls [])
def b_X1_entry_0 (N : Nat) (x1 : Int32) (x2 : Int32) (M : Mm) : Option (Int64 × Mm) :=
  (rO 0 x1).bind fun v5 => (rL M v5 x2).bind fun v7 => some (v7, M)
set_option maxRecDepth 100000 in
set_option maxHeartbeats 4000000 in
theorem t_X1_entry_0 {θ : Th} {p : Program} {l : Launch} {e : Env} {s : State} {m : MethodId} {args : Array Value} {below : List Frame} {meth : Method} {c : Code} (C : Cx θ p s m args meth c cX1_entry 3 RX1 (some .long)) (N : Nat) : J_X1_entry_0 θ p l e s m args below meth c (b_X1_entry_0 N) := by
  intro x1 x2 M r M1 h H locs ls hl hw hS
  unfold b_X1_entry_0 at h
  refine lv_aload_n C.1 C.2.1 dX1_entry_0 rfl (lv_at hl 0 rfl) ?_
  refine gf_X1_entries C hw w_79 dX1_entry_1 ?_
  refine lv_iload_n C.1 C.2.1 dX1_entry_4 rfl (lv_at hl 1 rfl) ?_
  obtain ⟨v5, h5, h⟩ := bind_s h
  refine k_aald C hw 0 (by decide) h5 dX1_entry_5 ?_
  refine lv_iload_n C.1 C.2.1 dX1_entry_6 rfl (lv_at hl 2 rfl) ?_
  obtain ⟨v7, h7, h⟩ := bind_s h
  refine k_lald C hw v5 h7 dX1_entry_7 ?_
  cases h
  exact k_retl C hw hS dX1_entry_8
def f_X1_entry (N : Nat) (x1 : Int32) (x2 : Int32) (M : Mm) : Option (Int64 × Mm) := b_X1_entry_0 N x1 x2 M
set_option maxRecDepth 100000 in
theorem c_X1_entry (θ : Th) (l : Launch) (N : Nat) {x1 : Int32} {x2 : Int32} {M : Mm} {r : Int64} {M1 : Mm} (h : f_X1_entry N x1 x2 M = some (r, M1)) : Met l yX1_entry (gws yX1_entry cX1_entry 3 (some .long)) rm_X1_entry (va_Pc [.ref (tad θ 1), .int x1, .int x2] (wU θ M)) (qL θ r M1) 0 0 (tA θ) :=
  k_met (by decide +kernel) (Nat.le_of_ble_eq_true rfl) (fun p e s m args below meth c C ls hl hw => t_X1_entry_0 C N _ _ _ _ _ h _ _ ls (lv_sub hl [0, 1, 2] rfl) hw va_S.rf)
abbrev rm_X1_excess : Room := { frames := 0, cells := 0, slots := 0, locals := 0 }
def J_X1_excess_5 (θ : Th) (p : Program) (l : Launch) (e : Env) (s : State) (m : MethodId) (args : Array Value) (below : List Frame) (meth : Method) (c : Code) (g : Int32 → Nat → Int64 → Int32 → Mm → Option (Int64 × Mm)) : Prop := ∀ (x1 : Int32) (x2 : Nat) (x3 : Int64) (x5 : Int32) (M : Mm) (r : Int64) (M1 : Mm), g x1 x2 x3 x5 M = some (r, M1) → ∀ (H : Heap) (locs : List Loc) (ls : Array Slot), lv_has ls 6 [(0, .ref (tad θ 1)), (1, .int x1), (2, .ref (tad θ (22 + x2))), (3, .long x3), (5, .int x5)] → wd θ M H → va_S (tA θ) s.heap H locs → W p l e rm_X1_excess s m args below meth c H locs 0 0 (MQ below (qL θ r M1) args s 0 0 (tA θ)) (F0 m 5 ls [])
def J_X1_excess_0 (θ : Th) (p : Program) (l : Launch) (e : Env) (s : State) (m : MethodId) (args : Array Value) (below : List Frame) (meth : Method) (c : Code) (g : Int32 → Nat → Mm → Option (Int64 × Mm)) : Prop := ∀ (x1 : Int32) (x2 : Nat) (M : Mm) (r : Int64) (M1 : Mm), g x1 x2 M = some (r, M1) → ∀ (H : Heap) (locs : List Loc) (ls : Array Slot), lv_has ls 6 [(0, .ref (tad θ 1)), (1, .int x1), (2, .ref (tad θ (22 + x2)))] → wd θ M H → va_S (tA θ) s.heap H locs → W p l e rm_X1_excess s m args below meth c H locs 0 0 (MQ below (qL θ r M1) args s 0 0 (tA θ)) (F0 m 0 ls [])
def F_X1_excess_5 (N : Nat) (k5 : Int32 → Nat → Int64 → Int32 → Mm → Option (Int64 × Mm)) (x1 : Int32) (x2 : Nat) (x3 : Int64) (x5 : Int32) (M : Mm) : Option (Int64 × Mm) :=
  (if 6 ≤ x5 then some (x3, M) else (rO 0 x1).bind fun v18 => (rL M v18 x5).bind fun v21 => (rL M x2 x5).bind fun v25 => k5 x1 x2 (x3 + (v21 * v25)) (x5 + 1) M)
abbrev b_X1_excess_5 (N : Nat) : Int32 → Nat → Int64 → Int32 → Mm → Option (Int64 × Mm) := lpT (fun _ _ _ _ _ => none) (F_X1_excess_5 N) N
set_option maxRecDepth 100000 in
set_option maxHeartbeats 4000000 in
theorem tF_X1_excess_5 {θ : Th} {p : Program} {l : Launch} {e : Env} {s : State} {m : MethodId} {args : Array Value} {below : List Frame} {meth : Method} {c : Code} (C : Cx θ p s m args meth c cX1_excess 6 RX1 (some .long)) (N : Nat) {k5 : Int32 → Nat → Int64 → Int32 → Mm → Option (Int64 × Mm)} (hk5 : J_X1_excess_5 θ p l e s m args below meth c k5) : J_X1_excess_5 θ p l e s m args below meth c (F_X1_excess_5 N k5) := by
  intro x1 x2 x3 x5 M r M1 h H locs ls hl hw hS
  unfold F_X1_excess_5 at h
  refine lv_iload C.1 C.2.1 dX1_excess_5 (lv_at hl 4 rfl) ?_
  refine lv_bipush (v := 6) C.1 C.2.1 dX1_excess_7 (by decide) ?_
  refine lv_icmp_ge (tgt := 35) C.1 C.2.1 dX1_excess_9 (by decide) (fun c9 => ?_) (fun c9 => ?_)
  · have h := it_t c9 h
    refine lv_lload_n C.1 C.2.1 dX1_excess_35 rfl (lv_at hl 3 rfl) ?_
    cases h
    exact k_retl C hw hS dX1_excess_36
  · have h := it_f c9 h
    refine lv_lload_n C.1 C.2.1 dX1_excess_12 rfl (lv_at hl 3 rfl) ?_
    refine lv_aload_n C.1 C.2.1 dX1_excess_13 rfl (lv_at hl 0 rfl) ?_
    refine gf_X1_entries C hw w_79 dX1_excess_14 ?_
    refine lv_iload_n C.1 C.2.1 dX1_excess_17 rfl (lv_at hl 1 rfl) ?_
    obtain ⟨v18, h18, h⟩ := bind_s h
    refine k_aald C hw 0 (by decide) h18 dX1_excess_18 ?_
    refine lv_iload C.1 C.2.1 dX1_excess_19 (lv_at hl 4 rfl) ?_
    obtain ⟨v21, h21, h⟩ := bind_s h
    refine k_lald C hw v18 h21 dX1_excess_21 ?_
    refine lv_aload_n C.1 C.2.1 dX1_excess_22 rfl (lv_at hl 2 rfl) ?_
    refine lv_iload C.1 C.2.1 dX1_excess_23 (lv_at hl 4 rfl) ?_
    obtain ⟨v25, h25, h⟩ := bind_s h
    refine k_lald C hw x2 h25 dX1_excess_25 ?_
    refine lv_lmul C.1 C.2.1 dX1_excess_26 ?_
    refine lv_ladd C.1 C.2.1 dX1_excess_27 ?_
    refine lv_lstore_n (lv' := [(3, .long (x3 + (v21 * v25))), (0, .ref (tad θ 1)), (1, .int x1), (2, .ref (tad θ (22 + x2))), (5, .int x5)]) C.1 C.2.1 dX1_excess_28 rfl hl (by decide) rfl (fun ls hl => ?_)
    refine lv_iinc (v := (x5 + 1)) (lv' := [(5, .int (x5 + 1)), (3, .long (x3 + (v21 * v25))), (0, .ref (tad θ 1)), (1, .int x1), (2, .ref (tad θ (22 + x2)))]) C.1 C.2.1 dX1_excess_29 hl (k := 4) rfl rfl (by decide) rfl (fun ls hl => ?_)
    refine lv_goto (tgt := 5) C.1 C.2.1 dX1_excess_32 (by decide) ?_
    exact hk5 _ _ _ _ _ _ _ h _ _ ls (lv_sub hl [2, 3, 4, 1, 0] rfl) hw hS
theorem t_X1_excess_5 {θ : Th} {p : Program} {l : Launch} {e : Env} {s : State} {m : MethodId} {args : Array Value} {below : List Frame} {meth : Method} {c : Code} (C : Cx θ p s m args meth c cX1_excess 6 RX1 (some .long)) (N : Nat) : J_X1_excess_5 θ p l e s m args below meth c (b_X1_excess_5 N) := lpT_ind (J := J_X1_excess_5 θ p l e s m args below meth c) (fun _ _ _ _ _ _ _ h => by cases h) (fun k hk => tF_X1_excess_5 C N hk) N
def b_X1_excess_0 (N : Nat) (x1 : Int32) (x2 : Nat) (M : Mm) : Option (Int64 × Mm) :=
  b_X1_excess_5 N x1 x2 0 0 M
set_option maxRecDepth 100000 in
set_option maxHeartbeats 4000000 in
theorem t_X1_excess_0 {θ : Th} {p : Program} {l : Launch} {e : Env} {s : State} {m : MethodId} {args : Array Value} {below : List Frame} {meth : Method} {c : Code} (C : Cx θ p s m args meth c cX1_excess 6 RX1 (some .long)) (N : Nat) : J_X1_excess_0 θ p l e s m args below meth c (b_X1_excess_0 N) := by
  intro x1 x2 M r M1 h H locs ls hl hw hS
  unfold b_X1_excess_0 at h
  refine lv_lconst (v := 0) C.1 C.2.1 dX1_excess_0 (by decide) ?_
  refine lv_lstore_n (lv' := [(3, .long 0), (0, .ref (tad θ 1)), (1, .int x1), (2, .ref (tad θ (22 + x2)))]) C.1 C.2.1 dX1_excess_1 rfl hl (by decide) rfl (fun ls hl => ?_)
  refine lv_iconst (v := 0) C.1 C.2.1 dX1_excess_2 (by decide) ?_
  refine lv_istore (lv' := [(5, .int 0), (3, .long 0), (0, .ref (tad θ 1)), (1, .int x1), (2, .ref (tad θ (22 + x2)))]) C.1 C.2.1 dX1_excess_3 hl (by decide) rfl (fun ls hl => ?_)
  exact t_X1_excess_5 C N _ _ _ _ _ _ _ h _ _ ls (lv_sub hl [2, 3, 4, 1, 0] rfl) hw hS
def f_X1_excess (N : Nat) (x1 : Int32) (x2 : Nat) (M : Mm) : Option (Int64 × Mm) := b_X1_excess_0 N x1 x2 M
set_option maxRecDepth 100000 in
theorem c_X1_excess (θ : Th) (l : Launch) (N : Nat) {x1 : Int32} {x2 : Nat} {M : Mm} {r : Int64} {M1 : Mm} (h : f_X1_excess N x1 x2 M = some (r, M1)) : Met l yX1_excess (gws yX1_excess cX1_excess 6 (some .long)) rm_X1_excess (va_Pc [.ref (tad θ 1), .int x1, .ref (tad θ (22 + x2))] (wU θ M)) (qL θ r M1) 0 0 (tA θ) :=
  k_met (by decide +kernel) (Nat.le_of_ble_eq_true rfl) (fun p e s m args below meth c C ls hl hw => t_X1_excess_0 C N _ _ _ _ _ h _ _ ls (lv_sub hl [0, 1, 2] rfl) hw va_S.rf)
abbrev rm_X1_worth : Room := { frames := 0, cells := 0, slots := 0, locals := 0 }
def J_X1_worth_5 (θ : Th) (p : Program) (l : Launch) (e : Env) (s : State) (m : MethodId) (args : Array Value) (below : List Frame) (meth : Method) (c : Code) (g : Nat → Int64 → Int32 → Mm → Option (Int64 × Mm)) : Prop := ∀ (x1 : Nat) (x2 : Int64) (x4 : Int32) (M : Mm) (r : Int64) (M1 : Mm), g x1 x2 x4 M = some (r, M1) → ∀ (H : Heap) (locs : List Loc) (ls : Array Slot), lv_has ls 5 [(0, .ref (tad θ 1)), (1, .ref (tad θ (22 + x1))), (2, .long x2), (4, .int x4)] → wd θ M H → va_S (tA θ) s.heap H locs → W p l e rm_X1_worth s m args below meth c H locs 0 0 (MQ below (qL θ r M1) args s 0 0 (tA θ)) (F0 m 5 ls [])
def J_X1_worth_0 (θ : Th) (p : Program) (l : Launch) (e : Env) (s : State) (m : MethodId) (args : Array Value) (below : List Frame) (meth : Method) (c : Code) (g : Nat → Mm → Option (Int64 × Mm)) : Prop := ∀ (x1 : Nat) (M : Mm) (r : Int64) (M1 : Mm), g x1 M = some (r, M1) → ∀ (H : Heap) (locs : List Loc) (ls : Array Slot), lv_has ls 5 [(0, .ref (tad θ 1)), (1, .ref (tad θ (22 + x1)))] → wd θ M H → va_S (tA θ) s.heap H locs → W p l e rm_X1_worth s m args below meth c H locs 0 0 (MQ below (qL θ r M1) args s 0 0 (tA θ)) (F0 m 0 ls [])
def F_X1_worth_5 (N : Nat) (k5 : Nat → Int64 → Int32 → Mm → Option (Int64 × Mm)) (x1 : Nat) (x2 : Int64) (x4 : Int32) (M : Mm) : Option (Int64 × Mm) :=
  (if (M.1 0) ≤ x4 then some (x2, M) else (rA M 3 x4).bind fun v21 => (rL M x1 (2 + x4)).bind fun v28 => k5 x1 (x2 + ((Int32.toInt64 v21) * v28)) (x4 + 1) M)
abbrev b_X1_worth_5 (N : Nat) : Nat → Int64 → Int32 → Mm → Option (Int64 × Mm) := lpT (fun _ _ _ _ => none) (F_X1_worth_5 N) N
set_option maxRecDepth 100000 in
set_option maxHeartbeats 4000000 in
theorem tF_X1_worth_5 {θ : Th} {p : Program} {l : Launch} {e : Env} {s : State} {m : MethodId} {args : Array Value} {below : List Frame} {meth : Method} {c : Code} (C : Cx θ p s m args meth c cX1_worth 5 RX1 (some .long)) (N : Nat) {k5 : Nat → Int64 → Int32 → Mm → Option (Int64 × Mm)} (hk5 : J_X1_worth_5 θ p l e s m args below meth c k5) : J_X1_worth_5 θ p l e s m args below meth c (F_X1_worth_5 N k5) := by
  intro x1 x2 x4 M r M1 h H locs ls hl hw hS
  unfold F_X1_worth_5 at h
  refine lv_iload C.1 C.2.1 dX1_worth_5 (lv_at hl 3 rfl) ?_
  refine lv_aload_n C.1 C.2.1 dX1_worth_7 rfl (lv_at hl 0 rfl) ?_
  refine gf_X1_variables C hw w_74 dX1_worth_8 ?_
  refine lv_icmp_ge (tgt := 38) C.1 C.2.1 dX1_worth_11 (by decide) (fun c11 => ?_) (fun c11 => ?_)
  · have h := it_t c11 h
    refine lv_lload_n C.1 C.2.1 dX1_worth_38 rfl (lv_at hl 2 rfl) ?_
    cases h
    exact k_retl C hw hS dX1_worth_39
  · have h := it_f c11 h
    refine lv_lload_n C.1 C.2.1 dX1_worth_14 rfl (lv_at hl 2 rfl) ?_
    refine lv_aload_n C.1 C.2.1 dX1_worth_15 rfl (lv_at hl 0 rfl) ?_
    refine gf_X1_wants C hw w_83 dX1_worth_16 ?_
    refine lv_iload C.1 C.2.1 dX1_worth_19 (lv_at hl 3 rfl) ?_
    obtain ⟨v21, h21, h⟩ := bind_s h
    refine k_iald C hw 3 (by decide) h21 dX1_worth_21 ?_
    refine lv_i2l (v := (Int32.toInt64 v21)) C.1 C.2.1 dX1_worth_22 rfl ?_
    refine lv_aload_n C.1 C.2.1 dX1_worth_23 rfl (lv_at hl 1 rfl) ?_
    refine lv_iconst (v := 2) C.1 C.2.1 dX1_worth_24 (by decide) ?_
    refine lv_iload C.1 C.2.1 dX1_worth_25 (lv_at hl 3 rfl) ?_
    refine lv_iadd C.1 C.2.1 dX1_worth_27 ?_
    obtain ⟨v28, h28, h⟩ := bind_s h
    refine k_lald C hw x1 h28 dX1_worth_28 ?_
    refine lv_lmul C.1 C.2.1 dX1_worth_29 ?_
    refine lv_ladd C.1 C.2.1 dX1_worth_30 ?_
    refine lv_lstore_n (lv' := [(2, .long (x2 + ((Int32.toInt64 v21) * v28))), (0, .ref (tad θ 1)), (1, .ref (tad θ (22 + x1))), (4, .int x4)]) C.1 C.2.1 dX1_worth_31 rfl hl (by decide) rfl (fun ls hl => ?_)
    refine lv_iinc (v := (x4 + 1)) (lv' := [(4, .int (x4 + 1)), (2, .long (x2 + ((Int32.toInt64 v21) * v28))), (0, .ref (tad θ 1)), (1, .ref (tad θ (22 + x1)))]) C.1 C.2.1 dX1_worth_32 hl (k := 3) rfl rfl (by decide) rfl (fun ls hl => ?_)
    refine lv_goto (tgt := 5) C.1 C.2.1 dX1_worth_35 (by decide) ?_
    exact hk5 _ _ _ _ _ _ h _ _ ls (lv_sub hl [2, 3, 1, 0] rfl) hw hS
theorem t_X1_worth_5 {θ : Th} {p : Program} {l : Launch} {e : Env} {s : State} {m : MethodId} {args : Array Value} {below : List Frame} {meth : Method} {c : Code} (C : Cx θ p s m args meth c cX1_worth 5 RX1 (some .long)) (N : Nat) : J_X1_worth_5 θ p l e s m args below meth c (b_X1_worth_5 N) := lpT_ind (J := J_X1_worth_5 θ p l e s m args below meth c) (fun _ _ _ _ _ _ h => by cases h) (fun k hk => tF_X1_worth_5 C N hk) N
def b_X1_worth_0 (N : Nat) (x1 : Nat) (M : Mm) : Option (Int64 × Mm) :=
  b_X1_worth_5 N x1 0 0 M
set_option maxRecDepth 100000 in
set_option maxHeartbeats 4000000 in
theorem t_X1_worth_0 {θ : Th} {p : Program} {l : Launch} {e : Env} {s : State} {m : MethodId} {args : Array Value} {below : List Frame} {meth : Method} {c : Code} (C : Cx θ p s m args meth c cX1_worth 5 RX1 (some .long)) (N : Nat) : J_X1_worth_0 θ p l e s m args below meth c (b_X1_worth_0 N) := by
  intro x1 M r M1 h H locs ls hl hw hS
  unfold b_X1_worth_0 at h
  refine lv_lconst (v := 0) C.1 C.2.1 dX1_worth_0 (by decide) ?_
  refine lv_lstore_n (lv' := [(2, .long 0), (0, .ref (tad θ 1)), (1, .ref (tad θ (22 + x1)))]) C.1 C.2.1 dX1_worth_1 rfl hl (by decide) rfl (fun ls hl => ?_)
  refine lv_iconst (v := 0) C.1 C.2.1 dX1_worth_2 (by decide) ?_
  refine lv_istore (lv' := [(4, .int 0), (2, .long 0), (0, .ref (tad θ 1)), (1, .ref (tad θ (22 + x1)))]) C.1 C.2.1 dX1_worth_3 hl (by decide) rfl (fun ls hl => ?_)
  exact t_X1_worth_5 C N _ _ _ _ _ _ h _ _ ls (lv_sub hl [2, 3, 1, 0] rfl) hw hS
def f_X1_worth (N : Nat) (x1 : Nat) (M : Mm) : Option (Int64 × Mm) := b_X1_worth_0 N x1 M
set_option maxRecDepth 100000 in
theorem c_X1_worth (θ : Th) (l : Launch) (N : Nat) {x1 : Nat} {M : Mm} {r : Int64} {M1 : Mm} (h : f_X1_worth N x1 M = some (r, M1)) : Met l yX1_worth (gws yX1_worth cX1_worth 5 (some .long)) rm_X1_worth (va_Pc [.ref (tad θ 1), .ref (tad θ (22 + x1))] (wU θ M)) (qL θ r M1) 0 0 (tA θ) :=
  k_met (by decide +kernel) (Nat.le_of_ble_eq_true rfl) (fun p e s m args below meth c C ls hl hw => t_X1_worth_0 C N _ _ _ _ h _ _ ls (lv_sub hl [0, 1] rfl) hw va_S.rf)
abbrev rm_X1_fits : Room := { frames := 0, cells := 0, slots := 0, locals := 0 }
def J_X1_fits_0 (θ : Th) (p : Program) (l : Launch) (e : Env) (s : State) (m : MethodId) (args : Array Value) (below : List Frame) (meth : Method) (c : Code) (g : Int64 → Int32 → Mm → Option (Int32 × Mm)) : Prop := ∀ (x0 : Int64) (x2 : Int32) (M : Mm) (r : Int32) (M1 : Mm), g x0 x2 M = some (r, M1) → ∀ (H : Heap) (locs : List Loc) (ls : Array Slot), lv_has ls 3 [(0, .long x0), (2, .int x2)] → wd θ M H → va_S (tA θ) s.heap H locs → W p l e rm_X1_fits s m args below meth c H locs 0 0 (MQ below (qI θ r M1) args s 0 0 (tA θ)) (F0 m 0 ls [])
def b_X1_fits_0 (N : Nat) (x0 : Int64) (x2 : Int32) (M : Mm) : Option (Int32 × Mm) :=
  (if x2 = 0 then (if 0 < (lg_cmp x0 0) then some (0, M) else some (1, M)) else (if x2 = 1 then (if (lg_cmp x0 0) = 0 then some (1, M) else some (0, M)) else (if (lg_cmp x0 0) < 0 then some (0, M) else some (1, M))))
set_option maxRecDepth 100000 in
set_option maxHeartbeats 4000000 in
theorem t_X1_fits_0 {θ : Th} {p : Program} {l : Launch} {e : Env} {s : State} {m : MethodId} {args : Array Value} {below : List Frame} {meth : Method} {c : Code} (C : Cx θ p s m args meth c cX1_fits 3 RX1 (some .boolean)) (N : Nat) : J_X1_fits_0 θ p l e s m args below meth c (b_X1_fits_0 N) := by
  intro x0 x2 M r M1 h H locs ls hl hw hS
  unfold b_X1_fits_0 at h
  refine lv_iload_n C.1 C.2.1 dX1_fits_0 rfl (lv_at hl 1 rfl) ?_
  refine lv_if_ne (tgt := 16) C.1 C.2.1 dX1_fits_1 (by decide) (fun c1 => ?_) (fun c1 => ?_)
  · have h := it_f c1 h
    refine lv_iload_n C.1 C.2.1 dX1_fits_16 rfl (lv_at hl 1 rfl) ?_
    refine lv_iconst (v := 1) C.1 C.2.1 dX1_fits_17 (by decide) ?_
    refine lv_icmp_ne (tgt := 33) C.1 C.2.1 dX1_fits_18 (by decide) (fun c18 => ?_) (fun c18 => ?_)
    · have h := it_f c18 h
      refine lv_lload_n C.1 C.2.1 dX1_fits_33 rfl (lv_at hl 0 rfl) ?_
      refine lv_lconst (v := 0) C.1 C.2.1 dX1_fits_34 (by decide) ?_
      refine W.lcmp C.1 C.2.1 dX1_fits_35 ?_
      refine lv_if_lt (tgt := 43) C.1 C.2.1 dX1_fits_36 (by decide) (fun c36 => ?_) (fun c36 => ?_)
      · have h := it_t c36 h
        refine lv_iconst (v := 0) C.1 C.2.1 dX1_fits_43 (by decide) ?_
        cases h
        exact k_retz C hw hS (Or.inl rfl) dX1_fits_44
      · have h := it_f c36 h
        refine lv_iconst (v := 1) C.1 C.2.1 dX1_fits_39 (by decide) ?_
        refine lv_goto (tgt := 44) C.1 C.2.1 dX1_fits_40 (by decide) ?_
        cases h
        exact k_retz C hw hS (Or.inr rfl) dX1_fits_44
    · have h := it_t c18 h
      refine lv_lload_n C.1 C.2.1 dX1_fits_21 rfl (lv_at hl 0 rfl) ?_
      refine lv_lconst (v := 0) C.1 C.2.1 dX1_fits_22 (by decide) ?_
      refine W.lcmp C.1 C.2.1 dX1_fits_23 ?_
      refine lv_if_ne (tgt := 31) C.1 C.2.1 dX1_fits_24 (by decide) (fun c24 => ?_) (fun c24 => ?_)
      · have h := it_f c24 h
        refine lv_iconst (v := 0) C.1 C.2.1 dX1_fits_31 (by decide) ?_
        cases h
        exact k_retz C hw hS (Or.inl rfl) dX1_fits_32
      · have h := it_t c24 h
        refine lv_iconst (v := 1) C.1 C.2.1 dX1_fits_27 (by decide) ?_
        refine lv_goto (tgt := 32) C.1 C.2.1 dX1_fits_28 (by decide) ?_
        cases h
        exact k_retz C hw hS (Or.inr rfl) dX1_fits_32
  · have h := it_t c1 h
    refine lv_lload_n C.1 C.2.1 dX1_fits_4 rfl (lv_at hl 0 rfl) ?_
    refine lv_lconst (v := 0) C.1 C.2.1 dX1_fits_5 (by decide) ?_
    refine W.lcmp C.1 C.2.1 dX1_fits_6 ?_
    refine lv_if_gt (tgt := 14) C.1 C.2.1 dX1_fits_7 (by decide) (fun c7 => ?_) (fun c7 => ?_)
    · have h := it_t c7 h
      refine lv_iconst (v := 0) C.1 C.2.1 dX1_fits_14 (by decide) ?_
      cases h
      exact k_retz C hw hS (Or.inl rfl) dX1_fits_15
    · have h := it_f c7 h
      refine lv_iconst (v := 1) C.1 C.2.1 dX1_fits_10 (by decide) ?_
      refine lv_goto (tgt := 15) C.1 C.2.1 dX1_fits_11 (by decide) ?_
      cases h
      exact k_retz C hw hS (Or.inr rfl) dX1_fits_15
def f_X1_fits (N : Nat) (x0 : Int64) (x2 : Int32) (M : Mm) : Option (Int32 × Mm) := b_X1_fits_0 N x0 x2 M
set_option maxRecDepth 100000 in
theorem c_X1_fits (θ : Th) (l : Launch) (N : Nat) {x0 : Int64} {x2 : Int32} {M : Mm} {r : Int32} {M1 : Mm} (h : f_X1_fits N x0 x2 M = some (r, M1)) : Met l yX1_fits (gws yX1_fits cX1_fits 3 (some .boolean)) rm_X1_fits (va_Pc [.long x0, .int x2] (wU θ M)) (qI θ r M1) 0 0 (tA θ) :=
  k_met (by decide +kernel) (Nat.le_of_ble_eq_true rfl) (fun p e s m args below meth c C ls hl hw => t_X1_fits_0 C N _ _ _ _ _ h _ _ ls (lv_sub hl [0, 1] rfl) hw va_S.rf)
abbrev rm_X1_holds : Room := { frames := 1, cells := 0, slots := 0, locals := 25 }
def J_X1_holds_2 (θ : Th) (p : Program) (l : Launch) (e : Env) (s : State) (m : MethodId) (args : Array Value) (below : List Frame) (meth : Method) (c : Code) (g : Nat → Int32 → Int32 → Mm → Option (Int32 × Mm)) : Prop := ∀ (x1 : Nat) (x2 : Int32) (x3 : Int32) (M : Mm) (r : Int32) (M1 : Mm), g x1 x2 x3 M = some (r, M1) → ∀ (H : Heap) (locs : List Loc) (ls : Array Slot), lv_has ls 4 [(0, .ref (tad θ 1)), (1, .ref (tad θ (22 + x1))), (2, .int x2), (3, .int x3)] → wd θ M H → va_S (tA θ) s.heap H locs → W p l e rm_X1_holds s m args below meth c H locs 0 0 (MQ below (qI θ r M1) args s 0 0 (tA θ)) (F0 m 2 ls [])
def J_X1_holds_0 (θ : Th) (p : Program) (l : Launch) (e : Env) (s : State) (m : MethodId) (args : Array Value) (below : List Frame) (meth : Method) (c : Code) (g : Nat → Int32 → Mm → Option (Int32 × Mm)) : Prop := ∀ (x1 : Nat) (x2 : Int32) (M : Mm) (r : Int32) (M1 : Mm), g x1 x2 M = some (r, M1) → ∀ (H : Heap) (locs : List Loc) (ls : Array Slot), lv_has ls 4 [(0, .ref (tad θ 1)), (1, .ref (tad θ (22 + x1))), (2, .int x2)] → wd θ M H → va_S (tA θ) s.heap H locs → W p l e rm_X1_holds s m args below meth c H locs 0 0 (MQ below (qI θ r M1) args s 0 0 (tA θ)) (F0 m 0 ls [])
def F_X1_holds_2 (N : Nat) (k2 : Nat → Int32 → Int32 → Mm → Option (Int32 × Mm)) (x1 : Nat) (x2 : Int32) (x3 : Int32) (M : Mm) : Option (Int32 × Mm) :=
  (if (M.1 1) ≤ x3 then some (1, M) else (if ((x2 >>> (x3 &&& 31)) &&& 1) = 1 then (f_X1_excess N x3 x1 M).bind fun (r22, M22) => (rA M22 0 x3).bind fun v30 => (f_X1_fits N r22 v30 M22).bind fun (r31, M31) => (if r31 = 0 then some (0, M31) else k2 x1 x2 (x3 + 1) M31) else k2 x1 x2 (x3 + 1) M))
abbrev b_X1_holds_2 (N : Nat) : Nat → Int32 → Int32 → Mm → Option (Int32 × Mm) := lpT (fun _ _ _ _ => none) (F_X1_holds_2 N) N
set_option maxRecDepth 100000 in
set_option maxHeartbeats 4000000 in
theorem tF_X1_holds_2 {θ : Th} {p : Program} {l : Launch} {e : Env} {s : State} {m : MethodId} {args : Array Value} {below : List Frame} {meth : Method} {c : Code} (C : Cx θ p s m args meth c cX1_holds 4 RX1 (some .boolean)) (N : Nat) {k2 : Nat → Int32 → Int32 → Mm → Option (Int32 × Mm)} (hk2 : J_X1_holds_2 θ p l e s m args below meth c k2) : J_X1_holds_2 θ p l e s m args below meth c (F_X1_holds_2 N k2) := by
  intro x1 x2 x3 M r M1 h H locs ls hl hw hS
  unfold F_X1_holds_2 at h
  refine lv_iload_n C.1 C.2.1 dX1_holds_2 rfl (lv_at hl 3 rfl) ?_
  refine lv_aload_n C.1 C.2.1 dX1_holds_3 rfl (lv_at hl 0 rfl) ?_
  refine gf_X1_rows C hw w_76 dX1_holds_4 ?_
  refine lv_icmp_ge (tgt := 45) C.1 C.2.1 dX1_holds_7 (by decide) (fun c7 => ?_) (fun c7 => ?_)
  · have h := it_t c7 h
    refine lv_iconst (v := 1) C.1 C.2.1 dX1_holds_45 (by decide) ?_
    cases h
    exact k_retz C hw hS (Or.inr rfl) dX1_holds_46
  · have h := it_f c7 h
    refine lv_iload_n C.1 C.2.1 dX1_holds_10 rfl (lv_at hl 2 rfl) ?_
    refine lv_iload_n C.1 C.2.1 dX1_holds_11 rfl (lv_at hl 3 rfl) ?_
    refine lv_ishr C.1 C.2.1 dX1_holds_12 ?_
    refine lv_iconst (v := 1) C.1 C.2.1 dX1_holds_13 (by decide) ?_
    refine lv_iand C.1 C.2.1 dX1_holds_14 ?_
    refine lv_iconst (v := 1) C.1 C.2.1 dX1_holds_15 (by decide) ?_
    refine lv_icmp_ne (tgt := 39) C.1 C.2.1 dX1_holds_16 (by decide) (fun c16 => ?_) (fun c16 => ?_)
    · have h := it_f c16 h
      refine lv_iinc (v := (x3 + 1)) (lv' := [(3, .int (x3 + 1)), (0, .ref (tad θ 1)), (1, .ref (tad θ (22 + x1))), (2, .int x2)]) C.1 C.2.1 dX1_holds_39 hl (k := 3) rfl rfl (by decide) rfl (fun ls hl => ?_)
      refine lv_goto (tgt := 2) C.1 C.2.1 dX1_holds_42 (by decide) ?_
      exact hk2 _ _ _ _ _ _ h _ _ ls (lv_sub hl [1, 2, 3, 0] rfl) hw hS
    · have h := it_t c16 h
      refine lv_aload_n C.1 C.2.1 dX1_holds_19 rfl (lv_at hl 0 rfl) ?_
      refine lv_iload_n C.1 C.2.1 dX1_holds_20 rfl (lv_at hl 3 rfl) ?_
      refine lv_aload_n C.1 C.2.1 dX1_holds_21 rfl (lv_at hl 1 rfl) ?_
      obtain ⟨⟨r22, M22⟩, h22, h⟩ := bind_s h
      dsimp only at h
      refine k_cl (k_runV (As := [.int x3, .ref (tad θ (22 + x1))]) C cf_X1_excess cv_X1_excess w_194 rc1 (c_X1_excess θ l N h22) ⟨rfl, rfl, Nat.le_of_ble_eq_true rfl, Nat.le_of_ble_eq_true rfl⟩ rfl hl.1 rfl (Nat.le_of_ble_eq_true rfl) dX1_holds_22 ⟨Nat.zero_le _, Nat.zero_le _⟩ hw) hS (fun H locs hw hS => ?_)
      refine lv_aload_n C.1 C.2.1 dX1_holds_25 rfl (lv_at hl 0 rfl) ?_
      refine gf_X1_senses C hw w_80 dX1_holds_26 ?_
      refine lv_iload_n C.1 C.2.1 dX1_holds_29 rfl (lv_at hl 3 rfl) ?_
      obtain ⟨v30, h30, h⟩ := bind_s h
      refine k_iald C hw 0 (by decide) h30 dX1_holds_30 ?_
      obtain ⟨⟨r31, M31⟩, h31, h⟩ := bind_s h
      dsimp only at h
      refine k_ci (k_runS (As := [.long r22, .int v30]) C cf_X1_fits cs_X1_fits w_198 (c_X1_fits θ l N h31) ⟨rfl, rfl, Nat.le_of_ble_eq_true rfl, Nat.le_of_ble_eq_true rfl⟩ rfl hl.1 rfl (Nat.le_of_ble_eq_true rfl) dX1_holds_31 ⟨Nat.zero_le _, Nat.zero_le _⟩ hw) hS (fun H locs hw hS => ?_)
      refine lv_if_ne (tgt := 39) C.1 C.2.1 dX1_holds_34 (by decide) (fun c34 => ?_) (fun c34 => ?_)
      · have h := it_f c34 h
        refine lv_iinc (v := (x3 + 1)) (lv' := [(3, .int (x3 + 1)), (0, .ref (tad θ 1)), (1, .ref (tad θ (22 + x1))), (2, .int x2)]) C.1 C.2.1 dX1_holds_39 hl (k := 3) rfl rfl (by decide) rfl (fun ls hl => ?_)
        refine lv_goto (tgt := 2) C.1 C.2.1 dX1_holds_42 (by decide) ?_
        exact hk2 _ _ _ _ _ _ h _ _ ls (lv_sub hl [1, 2, 3, 0] rfl) hw hS
      · have h := it_t c34 h
        refine lv_iconst (v := 0) C.1 C.2.1 dX1_holds_37 (by decide) ?_
        cases h
        exact k_retz C hw hS (Or.inl rfl) dX1_holds_38
theorem t_X1_holds_2 {θ : Th} {p : Program} {l : Launch} {e : Env} {s : State} {m : MethodId} {args : Array Value} {below : List Frame} {meth : Method} {c : Code} (C : Cx θ p s m args meth c cX1_holds 4 RX1 (some .boolean)) (N : Nat) : J_X1_holds_2 θ p l e s m args below meth c (b_X1_holds_2 N) := lpT_ind (J := J_X1_holds_2 θ p l e s m args below meth c) (fun _ _ _ _ _ _ h => by cases h) (fun k hk => tF_X1_holds_2 C N hk) N
def b_X1_holds_0 (N : Nat) (x1 : Nat) (x2 : Int32) (M : Mm) : Option (Int32 × Mm) :=
  b_X1_holds_2 N x1 x2 0 M
set_option maxRecDepth 100000 in
set_option maxHeartbeats 4000000 in
theorem t_X1_holds_0 {θ : Th} {p : Program} {l : Launch} {e : Env} {s : State} {m : MethodId} {args : Array Value} {below : List Frame} {meth : Method} {c : Code} (C : Cx θ p s m args meth c cX1_holds 4 RX1 (some .boolean)) (N : Nat) : J_X1_holds_0 θ p l e s m args below meth c (b_X1_holds_0 N) := by
  intro x1 x2 M r M1 h H locs ls hl hw hS
  unfold b_X1_holds_0 at h
  refine lv_iconst (v := 0) C.1 C.2.1 dX1_holds_0 (by decide) ?_
  refine lv_istore_n (lv' := [(3, .int 0), (0, .ref (tad θ 1)), (1, .ref (tad θ (22 + x1))), (2, .int x2)]) C.1 C.2.1 dX1_holds_1 rfl hl (by decide) rfl (fun ls hl => ?_)
  exact t_X1_holds_2 C N _ _ _ _ _ _ h _ _ ls (lv_sub hl [1, 2, 3, 0] rfl) hw hS
def f_X1_holds (N : Nat) (x1 : Nat) (x2 : Int32) (M : Mm) : Option (Int32 × Mm) := b_X1_holds_0 N x1 x2 M
set_option maxRecDepth 100000 in
theorem c_X1_holds (θ : Th) (l : Launch) (N : Nat) {x1 : Nat} {x2 : Int32} {M : Mm} {r : Int32} {M1 : Mm} (h : f_X1_holds N x1 x2 M = some (r, M1)) : Met l yX1_holds (gws yX1_holds cX1_holds 4 (some .boolean)) rm_X1_holds (va_Pc [.ref (tad θ 1), .ref (tad θ (22 + x1)), .int x2] (wU θ M)) (qI θ r M1) 0 0 (tA θ) :=
  k_met (by decide +kernel) (Nat.le_of_ble_eq_true rfl) (fun p e s m args below meth c C ls hl hw => t_X1_holds_0 C N _ _ _ _ _ h _ _ ls (lv_sub hl [0, 1, 2] rfl) hw va_S.rf)
