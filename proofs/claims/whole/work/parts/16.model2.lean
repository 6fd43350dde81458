abbrev rm_X3_everyRow : Room := { frames := 0, cells := 0, slots := 0, locals := 0 }
def J_X3_everyRow_0 (θ : Th) (p : Program) (l : Launch) (e : Env) (s : State) (m : MethodId) (args : Array Value) (below : List Frame) (meth : Method) (c : Code) (g : Mm → Option (Int32 × Mm)) : Prop := ∀ (M : Mm) (r : Int32) (M1 : Mm), g M = some (r, M1) → ∀ (H : Heap) (locs : List Loc) (ls : Array Slot), lv_has ls 1 [(0, .ref (tad θ 3))] → wd θ M H → va_S (tA θ) s.heap H locs → W p l e rm_X3_everyRow s m args below meth c H locs 0 0 (MQ below (qI θ r M1) args s 0 0 (tA θ)) (F0 m 0 ls [])
def b_X3_everyRow_0 (N : Nat) (M : Mm) : Option (Int32 × Mm) :=
  some (((1 <<< ((M.1 5) &&& 31)) - 1), M)
set_option maxRecDepth 100000 in
set_option maxHeartbeats 4000000 in
theorem t_X3_everyRow_0 {θ : Th} {p : Program} {l : Launch} {e : Env} {s : State} {m : MethodId} {args : Array Value} {below : List Frame} {meth : Method} {c : Code} (C : Cx θ p s m args meth c cX3_everyRow 1 RX3 (some .int)) (N : Nat) : J_X3_everyRow_0 θ p l e s m args below meth c (b_X3_everyRow_0 N) := by
  intro M r M1 h H locs ls hl hw hS
  unfold b_X3_everyRow_0 at h
  refine lv_iconst (v := 1) C.1 C.2.1 dX3_everyRow_0 (by decide) ?_
  refine lv_aload_n C.1 C.2.1 dX3_everyRow_1 rfl (lv_at hl 0 rfl) ?_
  refine gf_X3_m C hw w_526 dX3_everyRow_2 ?_
  refine lv_ishl C.1 C.2.1 dX3_everyRow_5 ?_
  refine lv_iconst (v := 1) C.1 C.2.1 dX3_everyRow_6 (by decide) ?_
  refine lv_isub C.1 C.2.1 dX3_everyRow_7 ?_
  cases h
  exact k_reti C hw hS dX3_everyRow_8
def f_X3_everyRow (N : Nat) (M : Mm) : Option (Int32 × Mm) := b_X3_everyRow_0 N M
set_option maxRecDepth 100000 in
theorem c_X3_everyRow (θ : Th) (l : Launch) (N : Nat) {M : Mm} {r : Int32} {M1 : Mm} (h : f_X3_everyRow N M = some (r, M1)) : Met l yX3_everyRow (gws yX3_everyRow cX3_everyRow 1 (some .int)) rm_X3_everyRow (va_Pc [.ref (tad θ 3)] (wU θ M)) (qI θ r M1) 0 0 (tA θ) :=
  k_met (by decide +kernel) (Nat.le_of_ble_eq_true rfl) (fun p e s m args below meth c C ls hl hw => t_X3_everyRow_0 C N _ _ _ h _ _ ls (lv_sub hl [0] rfl) hw va_S.rf)
abbrev rm_X3_infeasible : Room := { frames := 4, cells := 0, slots := 0, locals := 103 }
def J_X3_infeasible_0 (θ : Th) (p : Program) (l : Launch) (e : Env) (s : State) (m : MethodId) (args : Array Value) (below : List Frame) (meth : Method) (c : Code) (g : Int32 → Mm → Option (Int32 × Mm)) : Prop := ∀ (x1 : Int32) (M : Mm) (r : Int32) (M1 : Mm), g x1 M = some (r, M1) → ∀ (H : Heap) (locs : List Loc) (ls : Array Slot), lv_has ls 2 [(0, .ref (tad θ 3)), (1, .int x1)] → wd θ M H → va_S (tA θ) s.heap H locs → W p l e rm_X3_infeasible s m args below meth c H locs 0 0 (MQ below (qI θ r M1) args s 0 0 (tA θ)) (F0 m 0 ls [])
def b_X3_infeasible_0 (N : Nat) (x1 : Int32) (M : Mm) : Option (Int32 × Mm) :=
  (f_X3_collect N x1 0 M).bind fun M3 => (if (M3.1 9) = 0 then some (1, M3) else some (0, M3))
set_option maxRecDepth 100000 in
set_option maxHeartbeats 4000000 in
theorem t_X3_infeasible_0 {θ : Th} {p : Program} {l : Launch} {e : Env} {s : State} {m : MethodId} {args : Array Value} {below : List Frame} {meth : Method} {c : Code} (C : Cx θ p s m args meth c cX3_infeasible 2 RX3 (some .boolean)) (N : Nat) : J_X3_infeasible_0 θ p l e s m args below meth c (b_X3_infeasible_0 N) := by
  intro x1 M r M1 h H locs ls hl hw hS
  unfold b_X3_infeasible_0 at h
  refine lv_aload_n C.1 C.2.1 dX3_infeasible_0 rfl (lv_at hl 0 rfl) ?_
  refine lv_iload_n C.1 C.2.1 dX3_infeasible_1 rfl (lv_at hl 1 rfl) ?_
  refine lv_iconst (v := 0) C.1 C.2.1 dX3_infeasible_2 (by decide) ?_
  obtain ⟨M3, h3, h⟩ := bind_s h
  refine k_cv (k_runV (As := [.int x1, .int 0]) C cf_X3_collect cv_X3_collect w_633 rc3 (c_X3_collect θ l N h3) ⟨rfl, rfl, Nat.le_of_ble_eq_true rfl, Nat.le_of_ble_eq_true rfl⟩ rfl hl.1 rfl (Nat.le_of_ble_eq_true rfl) dX3_infeasible_3 ⟨Nat.zero_le _, Nat.zero_le _⟩ hw) hS (fun H locs hw hS => ?_)
  refine lv_aload_n C.1 C.2.1 dX3_infeasible_6 rfl (lv_at hl 0 rfl) ?_
  refine gf_X3_found C hw w_539 dX3_infeasible_7 ?_
  refine lv_if_ne (tgt := 17) C.1 C.2.1 dX3_infeasible_10 (by decide) (fun c10 => ?_) (fun c10 => ?_)
  · have h := it_f c10 h
    refine lv_iconst (v := 0) C.1 C.2.1 dX3_infeasible_17 (by decide) ?_
    cases h
    exact k_retz C hw hS (Or.inl rfl) dX3_infeasible_18
  · have h := it_t c10 h
    refine lv_iconst (v := 1) C.1 C.2.1 dX3_infeasible_13 (by decide) ?_
    refine lv_goto (tgt := 18) C.1 C.2.1 dX3_infeasible_14 (by decide) ?_
    cases h
    exact k_retz C hw hS (Or.inr rfl) dX3_infeasible_18
def f_X3_infeasible (N : Nat) (x1 : Int32) (M : Mm) : Option (Int32 × Mm) := b_X3_infeasible_0 N x1 M
set_option maxRecDepth 100000 in
theorem c_X3_infeasible (θ : Th) (l : Launch) (N : Nat) {x1 : Int32} {M : Mm} {r : Int32} {M1 : Mm} (h : f_X3_infeasible N x1 M = some (r, M1)) : Met l yX3_infeasible (gws yX3_infeasible cX3_infeasible 2 (some .boolean)) rm_X3_infeasible (va_Pc [.ref (tad θ 3), .int x1] (wU θ M)) (qI θ r M1) 0 0 (tA θ) :=
  k_met (by decide +kernel) (Nat.le_of_ble_eq_true rfl) (fun p e s m args below meth c C ls hl hw => t_X3_infeasible_0 C N _ _ _ _ h _ _ ls (lv_sub hl [0, 1] rfl) hw va_S.rf)
abbrev rm_X3_grows : Room := { frames := 4, cells := 0, slots := 0, locals := 103 }
def J_X3_grows_13 (θ : Th) (p : Program) (l : Launch) (e : Env) (s : State) (m : MethodId) (args : Array Value) (below : List Frame) (meth : Method) (c : Code) (g : Int32 → Int32 → Mm → Option (Int32 × Mm)) : Prop := ∀ (x1 : Int32) (x2 : Int32) (M : Mm) (r : Int32) (M1 : Mm), g x1 x2 M = some (r, M1) → ∀ (H : Heap) (locs : List Loc) (ls : Array Slot), lv_has ls 3 [(0, .ref (tad θ 3)), (1, .int x1), (2, .int x2)] → wd θ M H → va_S (tA θ) s.heap H locs → W p l e rm_X3_grows s m args below meth c H locs 0 0 (MQ below (qI θ r M1) args s 0 0 (tA θ)) (F0 m 13 ls [])
def J_X3_grows_0 (θ : Th) (p : Program) (l : Launch) (e : Env) (s : State) (m : MethodId) (args : Array Value) (below : List Frame) (meth : Method) (c : Code) (g : Mm → Option (Int32 × Mm)) : Prop := ∀ (M : Mm) (r : Int32) (M1 : Mm), g M = some (r, M1) → ∀ (H : Heap) (locs : List Loc) (ls : Array Slot), lv_has ls 3 [(0, .ref (tad θ 3))] → wd θ M H → va_S (tA θ) s.heap H locs → W p l e rm_X3_grows s m args below meth c H locs 0 0 (MQ below (qI θ r M1) args s 0 0 (tA θ)) (F0 m 0 ls [])
def F_X3_grows_13 (N : Nat) (k13 : Int32 → Int32 → Mm → Option (Int32 × Mm)) (x1 : Int32) (x2 : Int32) (M : Mm) : Option (Int32 × Mm) :=
  (if (M.1 9) ≤ x2 then (if x1 = 0 ∨ x1 = 1 then some (x1, M) else none) else (if x1 = 0 then (rL M 4 x2).bind fun v30 => (if (lg_cmp v30 0) ≤ 0 then k13 0 (x2 + 1) M else k13 1 (x2 + 1) M) else k13 1 (x2 + 1) M))
abbrev b_X3_grows_13 (N : Nat) : Int32 → Int32 → Mm → Option (Int32 × Mm) := lpT (fun _ _ _ => none) (F_X3_grows_13 N) N
set_option maxRecDepth 100000 in
set_option maxHeartbeats 4000000 in
theorem tF_X3_grows_13 {θ : Th} {p : Program} {l : Launch} {e : Env} {s : State} {m : MethodId} {args : Array Value} {below : List Frame} {meth : Method} {c : Code} (C : Cx θ p s m args meth c cX3_grows 3 RX3 (some .boolean)) (N : Nat) {k13 : Int32 → Int32 → Mm → Option (Int32 × Mm)} (hk13 : J_X3_grows_13 θ p l e s m args below meth c k13) : J_X3_grows_13 θ p l e s m args below meth c (F_X3_grows_13 N k13) := by
  intro x1 x2 M r M1 h H locs ls hl hw hS
  unfold F_X3_grows_13 at h
  refine lv_iload_n C.1 C.2.1 dX3_grows_13 rfl (lv_at hl 2 rfl) ?_
  refine lv_aload_n C.1 C.2.1 dX3_grows_14 rfl (lv_at hl 0 rfl) ?_
  refine gf_X3_found C hw w_539 dX3_grows_15 ?_
  refine lv_icmp_ge (tgt := 48) C.1 C.2.1 dX3_grows_18 (by decide) (fun c18 => ?_) (fun c18 => ?_)
  · have h := it_t c18 h
    refine lv_iload_n C.1 C.2.1 dX3_grows_48 rfl (lv_at hl 1 rfl) ?_
    obtain ⟨hz49, h⟩ := it_z h
    cases h
    exact k_retz C hw hS hz49 dX3_grows_49
  · have h := it_f c18 h
    refine lv_iload_n C.1 C.2.1 dX3_grows_21 rfl (lv_at hl 1 rfl) ?_
    refine lv_if_ne (tgt := 36) C.1 C.2.1 dX3_grows_22 (by decide) (fun c22 => ?_) (fun c22 => ?_)
    · have h := it_f c22 h
      refine lv_iconst (v := 1) C.1 C.2.1 dX3_grows_36 (by decide) ?_
      refine lv_goto (tgt := 41) C.1 C.2.1 dX3_grows_37 (by decide) ?_
      refine lv_istore_n (lv' := [(1, .int 1), (0, .ref (tad θ 3)), (2, .int x2)]) C.1 C.2.1 dX3_grows_41 rfl hl (by decide) rfl (fun ls hl => ?_)
      refine lv_iinc (v := (x2 + 1)) (lv' := [(2, .int (x2 + 1)), (1, .int 1), (0, .ref (tad θ 3))]) C.1 C.2.1 dX3_grows_42 hl (k := 2) rfl rfl (by decide) rfl (fun ls hl => ?_)
      refine lv_goto (tgt := 13) C.1 C.2.1 dX3_grows_45 (by decide) ?_
      exact hk13 _ _ _ _ _ h _ _ ls (lv_sub hl [2, 1, 0] rfl) hw hS
    · have h := it_t c22 h
      refine lv_aload_n C.1 C.2.1 dX3_grows_25 rfl (lv_at hl 0 rfl) ?_
      refine gf_X3_worth C hw w_542 dX3_grows_26 ?_
      refine lv_iload_n C.1 C.2.1 dX3_grows_29 rfl (lv_at hl 2 rfl) ?_
      obtain ⟨v30, h30, h⟩ := bind_s h
      refine k_lald C hw 4 h30 dX3_grows_30 ?_
      refine lv_lconst (v := 0) C.1 C.2.1 dX3_grows_31 (by decide) ?_
      refine W.lcmp C.1 C.2.1 dX3_grows_32 ?_
      refine lv_if_le (tgt := 40) C.1 C.2.1 dX3_grows_33 (by decide) (fun c33 => ?_) (fun c33 => ?_)
      · have h := it_t c33 h
        refine lv_iconst (v := 0) C.1 C.2.1 dX3_grows_40 (by decide) ?_
        refine lv_istore_n (lv' := [(1, .int 0), (0, .ref (tad θ 3)), (2, .int x2)]) C.1 C.2.1 dX3_grows_41 rfl hl (by decide) rfl (fun ls hl => ?_)
        refine lv_iinc (v := (x2 + 1)) (lv' := [(2, .int (x2 + 1)), (1, .int 0), (0, .ref (tad θ 3))]) C.1 C.2.1 dX3_grows_42 hl (k := 2) rfl rfl (by decide) rfl (fun ls hl => ?_)
        refine lv_goto (tgt := 13) C.1 C.2.1 dX3_grows_45 (by decide) ?_
        exact hk13 _ _ _ _ _ h _ _ ls (lv_sub hl [2, 1, 0] rfl) hw hS
      · have h := it_f c33 h
        refine lv_iconst (v := 1) C.1 C.2.1 dX3_grows_36 (by decide) ?_
        refine lv_goto (tgt := 41) C.1 C.2.1 dX3_grows_37 (by decide) ?_
        refine lv_istore_n (lv' := [(1, .int 1), (0, .ref (tad θ 3)), (2, .int x2)]) C.1 C.2.1 dX3_grows_41 rfl hl (by decide) rfl (fun ls hl => ?_)
        refine lv_iinc (v := (x2 + 1)) (lv' := [(2, .int (x2 + 1)), (1, .int 1), (0, .ref (tad θ 3))]) C.1 C.2.1 dX3_grows_42 hl (k := 2) rfl rfl (by decide) rfl (fun ls hl => ?_)
        refine lv_goto (tgt := 13) C.1 C.2.1 dX3_grows_45 (by decide) ?_
        exact hk13 _ _ _ _ _ h _ _ ls (lv_sub hl [2, 1, 0] rfl) hw hS
theorem t_X3_grows_13 {θ : Th} {p : Program} {l : Launch} {e : Env} {s : State} {m : MethodId} {args : Array Value} {below : List Frame} {meth : Method} {c : Code} (C : Cx θ p s m args meth c cX3_grows 3 RX3 (some .boolean)) (N : Nat) : J_X3_grows_13 θ p l e s m args below meth c (b_X3_grows_13 N) := lpT_ind (J := J_X3_grows_13 θ p l e s m args below meth c) (fun _ _ _ _ _ h => by cases h) (fun k hk => tF_X3_grows_13 C N hk) N
def b_X3_grows_0 (N : Nat) (M : Mm) : Option (Int32 × Mm) :=
  (f_X3_everyRow N M).bind fun (r2, M2) => (f_X3_collect N r2 1 M2).bind fun M6 => b_X3_grows_13 N 0 0 M6
set_option maxRecDepth 100000 in
set_option maxHeartbeats 4000000 in
theorem t_X3_grows_0 {θ : Th} {p : Program} {l : Launch} {e : Env} {s : State} {m : MethodId} {args : Array Value} {below : List Frame} {meth : Method} {c : Code} (C : Cx θ p s m args meth c cX3_grows 3 RX3 (some .boolean)) (N : Nat) : J_X3_grows_0 θ p l e s m args below meth c (b_X3_grows_0 N) := by
  intro M r M1 h H locs ls hl hw hS
  unfold b_X3_grows_0 at h
  refine lv_aload_n C.1 C.2.1 dX3_grows_0 rfl (lv_at hl 0 rfl) ?_
  refine lv_aload_n C.1 C.2.1 dX3_grows_1 rfl (lv_at hl 0 rfl) ?_
  obtain ⟨⟨r2, M2⟩, h2, h⟩ := bind_s h
  dsimp only at h
  refine k_ci (k_runV (As := []) C cf_X3_everyRow cv_X3_everyRow w_625 rc3 (c_X3_everyRow θ l N h2) ⟨rfl, rfl, Nat.le_of_ble_eq_true rfl, Nat.le_of_ble_eq_true rfl⟩ rfl hl.1 rfl (Nat.le_of_ble_eq_true rfl) dX3_grows_2 ⟨Nat.zero_le _, Nat.zero_le _⟩ hw) hS (fun H locs hw hS => ?_)
  refine lv_iconst (v := 1) C.1 C.2.1 dX3_grows_5 (by decide) ?_
  obtain ⟨M6, h6, h⟩ := bind_s h
  refine k_cv (k_runV (As := [.int r2, .int 1]) C cf_X3_collect cv_X3_collect w_633 rc3 (c_X3_collect θ l N h6) ⟨rfl, rfl, Nat.le_of_ble_eq_true rfl, Nat.le_of_ble_eq_true rfl⟩ rfl hl.1 rfl (Nat.le_of_ble_eq_true rfl) dX3_grows_6 ⟨Nat.zero_le _, Nat.zero_le _⟩ hw) hS (fun H locs hw hS => ?_)
  refine lv_iconst (v := 0) C.1 C.2.1 dX3_grows_9 (by decide) ?_
  refine lv_istore_n (lv' := [(1, .int 0), (0, .ref (tad θ 3))]) C.1 C.2.1 dX3_grows_10 rfl hl (by decide) rfl (fun ls hl => ?_)
  refine lv_iconst (v := 0) C.1 C.2.1 dX3_grows_11 (by decide) ?_
  refine lv_istore_n (lv' := [(2, .int 0), (1, .int 0), (0, .ref (tad θ 3))]) C.1 C.2.1 dX3_grows_12 rfl hl (by decide) rfl (fun ls hl => ?_)
  exact t_X3_grows_13 C N _ _ _ _ _ h _ _ ls (lv_sub hl [2, 1, 0] rfl) hw hS
def f_X3_grows (N : Nat) (M : Mm) : Option (Int32 × Mm) := b_X3_grows_0 N M
set_option maxRecDepth 100000 in
theorem c_X3_grows (θ : Th) (l : Launch) (N : Nat) {M : Mm} {r : Int32} {M1 : Mm} (h : f_X3_grows N M = some (r, M1)) : Met l yX3_grows (gws yX3_grows cX3_grows 3 (some .boolean)) rm_X3_grows (va_Pc [.ref (tad θ 3)] (wU θ M)) (qI θ r M1) 0 0 (tA θ) :=
  k_met (by decide +kernel) (Nat.le_of_ble_eq_true rfl) (fun p e s m args below meth c C ls hl hw => t_X3_grows_0 C N _ _ _ h _ _ ls (lv_sub hl [0] rfl) hw va_S.rf)
abbrev rm_X3_status : Room := { frames := 5, cells := 0, slots := 0, locals := 125 }
def J_X3_status_0 (θ : Th) (p : Program) (l : Launch) (e : Env) (s : State) (m : MethodId) (args : Array Value) (below : List Frame) (meth : Method) (c : Code) (g : Mm → Option (Int32 × Mm)) : Prop := ∀ (M : Mm) (r : Int32) (M1 : Mm), g M = some (r, M1) → ∀ (H : Heap) (locs : List Loc) (ls : Array Slot), lv_has ls 1 [(0, .ref (tad θ 3))] → wd θ M H → va_S (tA θ) s.heap H locs → W p l e rm_X3_status s m args below meth c H locs 0 0 (MQ below (qI θ r M1) args s 0 0 (tA θ)) (F0 m 0 ls [])
def b_X3_status_0 (N : Nat) (M : Mm) : Option (Int32 × Mm) :=
  (f_X3_everyRow N M).bind fun (r2, M2) => (f_X3_infeasible N r2 M2).bind fun (r5, M5) => (if r5 = 0 then (f_X3_grows N M5).bind fun (r16, M16) => (if r16 = 0 then some (0, M16) else some (2, M16)) else some (1, M5))
set_option maxRecDepth 100000 in
set_option maxHeartbeats 4000000 in
theorem t_X3_status_0 {θ : Th} {p : Program} {l : Launch} {e : Env} {s : State} {m : MethodId} {args : Array Value} {below : List Frame} {meth : Method} {c : Code} (C : Cx θ p s m args meth c cX3_status 1 RX3 (some .int)) (N : Nat) : J_X3_status_0 θ p l e s m args below meth c (b_X3_status_0 N) := by
  intro M r M1 h H locs ls hl hw hS
  unfold b_X3_status_0 at h
  refine lv_aload_n C.1 C.2.1 dX3_status_0 rfl (lv_at hl 0 rfl) ?_
  refine lv_aload_n C.1 C.2.1 dX3_status_1 rfl (lv_at hl 0 rfl) ?_
  obtain ⟨⟨r2, M2⟩, h2, h⟩ := bind_s h
  dsimp only at h
  refine k_ci (k_runV (As := []) C cf_X3_everyRow cv_X3_everyRow w_625 rc3 (c_X3_everyRow θ l N h2) ⟨rfl, rfl, Nat.le_of_ble_eq_true rfl, Nat.le_of_ble_eq_true rfl⟩ rfl hl.1 rfl (Nat.le_of_ble_eq_true rfl) dX3_status_2 ⟨Nat.zero_le _, Nat.zero_le _⟩ hw) hS (fun H locs hw hS => ?_)
  obtain ⟨⟨r5, M5⟩, h5, h⟩ := bind_s h
  dsimp only at h
  refine k_ci (k_runV (As := [.int r2]) C cf_X3_infeasible cv_X3_infeasible w_629 rc3 (c_X3_infeasible θ l N h5) ⟨rfl, rfl, Nat.le_of_ble_eq_true rfl, Nat.le_of_ble_eq_true rfl⟩ rfl hl.1 rfl (Nat.le_of_ble_eq_true rfl) dX3_status_5 ⟨Nat.zero_le _, Nat.zero_le _⟩ hw) hS (fun H locs hw hS => ?_)
  refine lv_if_eq (tgt := 15) C.1 C.2.1 dX3_status_8 (by decide) (fun c8 => ?_) (fun c8 => ?_)
  · have h := it_t c8 h
    refine lv_aload_n C.1 C.2.1 dX3_status_15 rfl (lv_at hl 0 rfl) ?_
    obtain ⟨⟨r16, M16⟩, h16, h⟩ := bind_s h
    dsimp only at h
    refine k_ci (k_runV (As := []) C cf_X3_grows cv_X3_grows w_670 rc3 (c_X3_grows θ l N h16) ⟨rfl, rfl, Nat.le_of_ble_eq_true rfl, Nat.le_of_ble_eq_true rfl⟩ rfl hl.1 rfl (Nat.le_of_ble_eq_true rfl) dX3_status_16 ⟨Nat.zero_le _, Nat.zero_le _⟩ hw) hS (fun H locs hw hS => ?_)
    refine lv_if_eq (tgt := 26) C.1 C.2.1 dX3_status_19 (by decide) (fun c19 => ?_) (fun c19 => ?_)
    · have h := it_t c19 h
      refine lv_iconst (v := 0) C.1 C.2.1 dX3_status_26 (by decide) ?_
      cases h
      exact k_reti C hw hS dX3_status_27
    · have h := it_f c19 h
      refine lv_iconst (v := 2) C.1 C.2.1 dX3_status_22 (by decide) ?_
      refine lv_goto (tgt := 27) C.1 C.2.1 dX3_status_23 (by decide) ?_
      cases h
      exact k_reti C hw hS dX3_status_27
  · have h := it_f c8 h
    refine lv_iconst (v := 1) C.1 C.2.1 dX3_status_11 (by decide) ?_
    refine lv_goto (tgt := 27) C.1 C.2.1 dX3_status_12 (by decide) ?_
    cases h
    exact k_reti C hw hS dX3_status_27
def f_X3_status (N : Nat) (M : Mm) : Option (Int32 × Mm) := b_X3_status_0 N M
set_option maxRecDepth 100000 in
theorem c_X3_status (θ : Th) (l : Launch) (N : Nat) {M : Mm} {r : Int32} {M1 : Mm} (h : f_X3_status N M = some (r, M1)) : Met l yX3_status (gws yX3_status cX3_status 1 (some .int)) rm_X3_status (va_Pc [.ref (tad θ 3)] (wU θ M)) (qI θ r M1) 0 0 (tA θ) :=
  k_met (by decide +kernel) (Nat.le_of_ble_eq_true rfl) (fun p e s m args below meth c C ls hl hw => t_X3_status_0 C N _ _ _ h _ _ ls (lv_sub hl [0] rfl) hw va_S.rf)
abbrev rm_X3_solve : Room := { frames := 6, cells := 0, slots := 0, locals := 145 }
def J_X3_solve_0 (θ : Th) (p : Program) (l : Launch) (e : Env) (s : State) (m : MethodId) (args : Array Value) (below : List Frame) (meth : Method) (c : Code) (g : Mm → Option (Int32 × Mm)) : Prop := ∀ (M : Mm) (r : Int32) (M1 : Mm), g M = some (r, M1) → ∀ (H : Heap) (locs : List Loc) (ls : Array Slot), lv_has ls 1 [(0, .ref (tad θ 3))] → wd θ M H → va_S (tA θ) s.heap H locs → W p l e rm_X3_solve s m args below meth c H locs 0 0 (MQ below (qI θ r M1) args s 0 0 (tA θ)) (F0 m 0 ls [])
def b_X3_solve_0 (N : Nat) (M : Mm) : Option (Int32 × Mm) :=
  (f_X3_status N (wI M 6 0)).bind fun (r6, M6) => some (r6, M6)
set_option maxRecDepth 100000 in
set_option maxHeartbeats 4000000 in
theorem t_X3_solve_0 {θ : Th} {p : Program} {l : Launch} {e : Env} {s : State} {m : MethodId} {args : Array Value} {below : List Frame} {meth : Method} {c : Code} (C : Cx θ p s m args meth c cX3_solve 1 RX3 (some .int)) (N : Nat) : J_X3_solve_0 θ p l e s m args below meth c (b_X3_solve_0 N) := by
  intro M r M1 h H locs ls hl hw hS
  unfold b_X3_solve_0 at h
  refine lv_aload_n C.1 C.2.1 dX3_solve_0 rfl (lv_at hl 0 rfl) ?_
  refine lv_iconst (v := 0) C.1 C.2.1 dX3_solve_1 (by decide) ?_
  refine pf_X3_thrown C hw hS w_532 dX3_solve_2 (fun H locs hw hS => ?_)
  refine lv_aload_n C.1 C.2.1 dX3_solve_5 rfl (lv_at hl 0 rfl) ?_
  obtain ⟨⟨r6, M6⟩, h6, h⟩ := bind_s h
  dsimp only at h
  refine k_ci (k_runV (As := []) C cf_X3_status cv_X3_status w_621 rc3 (c_X3_status θ l N h6) ⟨rfl, rfl, Nat.le_of_ble_eq_true rfl, Nat.le_of_ble_eq_true rfl⟩ rfl hl.1 rfl (Nat.le_of_ble_eq_true rfl) dX3_solve_6 ⟨Nat.zero_le _, Nat.zero_le _⟩ hw) hS (fun H locs hw hS => ?_)
  cases h
  exact k_reti C hw hS dX3_solve_9
def f_X3_solve (N : Nat) (M : Mm) : Option (Int32 × Mm) := b_X3_solve_0 N M
set_option maxRecDepth 100000 in
theorem c_X3_solve (θ : Th) (l : Launch) (N : Nat) {M : Mm} {r : Int32} {M1 : Mm} (h : f_X3_solve N M = some (r, M1)) : Met l yX3_solve (gws yX3_solve cX3_solve 1 (some .int)) rm_X3_solve (va_Pc [.ref (tad θ 3)] (wU θ M)) (qI θ r M1) 0 0 (tA θ) :=
  k_met (by decide +kernel) (Nat.le_of_ble_eq_true rfl) (fun p e s m args below meth c C ls hl hw => t_X3_solve_0 C N _ _ _ h _ _ ls (lv_sub hl [0] rfl) hw va_S.rf)
abbrev rm_X3_compare : Room := { frames := 0, cells := 0, slots := 0, locals := 0 }
def J_X3_compare_0 (θ : Th) (p : Program) (l : Launch) (e : Env) (s : State) (m : MethodId) (args : Array Value) (below : List Frame) (meth : Method) (c : Code) (g : Int64 → Int64 → Int64 → Int64 → Mm → Option (Int32 × Mm)) : Prop := ∀ (x0 : Int64) (x2 : Int64) (x4 : Int64) (x6 : Int64) (M : Mm) (r : Int32) (M1 : Mm), g x0 x2 x4 x6 M = some (r, M1) → ∀ (H : Heap) (locs : List Loc) (ls : Array Slot), lv_has ls 8 [(0, .long x0), (2, .long x2), (4, .long x4), (6, .long x6)] → wd θ M H → va_S (tA θ) s.heap H locs → W p l e rm_X3_compare s m args below meth c H locs 0 0 (MQ below (qI θ r M1) args s 0 0 (tA θ)) (F0 m 0 ls [])
def b_X3_compare_0 (N : Nat) (x0 : Int64) (x2 : Int64) (x4 : Int64) (x6 : Int64) (M : Mm) : Option (Int32 × Mm) :=
  (if 0 ≤ (lg_cmp (x0 * x6) (x4 * x2)) then (if (lg_cmp (x0 * x6) (x4 * x2)) ≤ 0 then some (0, M) else some (1, M)) else some ((-1), M))
set_option maxRecDepth 100000 in
set_option maxHeartbeats 4000000 in
theorem t_X3_compare_0 {θ : Th} {p : Program} {l : Launch} {e : Env} {s : State} {m : MethodId} {args : Array Value} {below : List Frame} {meth : Method} {c : Code} (C : Cx θ p s m args meth c cX3_compare 8 RX3 (some .int)) (N : Nat) : J_X3_compare_0 θ p l e s m args below meth c (b_X3_compare_0 N) := by
  intro x0 x2 x4 x6 M r M1 h H locs ls hl hw hS
  unfold b_X3_compare_0 at h
  refine lv_lload_n C.1 C.2.1 dX3_compare_0 rfl (lv_at hl 0 rfl) ?_
  refine lv_lload C.1 C.2.1 dX3_compare_1 (lv_at hl 3 rfl) ?_
  refine lv_lmul C.1 C.2.1 dX3_compare_3 ?_
  refine lv_lload C.1 C.2.1 dX3_compare_4 (lv_at hl 2 rfl) ?_
  refine lv_lload_n C.1 C.2.1 dX3_compare_6 rfl (lv_at hl 1 rfl) ?_
  refine lv_lmul C.1 C.2.1 dX3_compare_7 ?_
  refine W.lcmp C.1 C.2.1 dX3_compare_8 ?_
  refine lv_if_ge (tgt := 16) C.1 C.2.1 dX3_compare_9 (by decide) (fun c9 => ?_) (fun c9 => ?_)
  · have h := it_t c9 h
    refine lv_lload_n C.1 C.2.1 dX3_compare_16 rfl (lv_at hl 0 rfl) ?_
    refine lv_lload C.1 C.2.1 dX3_compare_17 (lv_at hl 3 rfl) ?_
    refine lv_lmul C.1 C.2.1 dX3_compare_19 ?_
    refine lv_lload C.1 C.2.1 dX3_compare_20 (lv_at hl 2 rfl) ?_
    refine lv_lload_n C.1 C.2.1 dX3_compare_22 rfl (lv_at hl 1 rfl) ?_
    refine lv_lmul C.1 C.2.1 dX3_compare_23 ?_
    refine W.lcmp C.1 C.2.1 dX3_compare_24 ?_
    refine lv_if_le (tgt := 32) C.1 C.2.1 dX3_compare_25 (by decide) (fun c25 => ?_) (fun c25 => ?_)
    · have h := it_t c25 h
      refine lv_iconst (v := 0) C.1 C.2.1 dX3_compare_32 (by decide) ?_
      cases h
      exact k_reti C hw hS dX3_compare_33
    · have h := it_f c25 h
      refine lv_iconst (v := 1) C.1 C.2.1 dX3_compare_28 (by decide) ?_
      refine lv_goto (tgt := 33) C.1 C.2.1 dX3_compare_29 (by decide) ?_
      cases h
      exact k_reti C hw hS dX3_compare_33
  · have h := it_f c9 h
    refine lv_iconst (v := (-1)) C.1 C.2.1 dX3_compare_12 (by decide) ?_
    refine lv_goto (tgt := 33) C.1 C.2.1 dX3_compare_13 (by decide) ?_
    cases h
    exact k_reti C hw hS dX3_compare_33
def f_X3_compare (N : Nat) (x0 : Int64) (x2 : Int64) (x4 : Int64) (x6 : Int64) (M : Mm) : Option (Int32 × Mm) := b_X3_compare_0 N x0 x2 x4 x6 M
set_option maxRecDepth 100000 in
theorem c_X3_compare (θ : Th) (l : Launch) (N : Nat) {x0 : Int64} {x2 : Int64} {x4 : Int64} {x6 : Int64} {M : Mm} {r : Int32} {M1 : Mm} (h : f_X3_compare N x0 x2 x4 x6 M = some (r, M1)) : Met l yX3_compare (gws yX3_compare cX3_compare 8 (some .int)) rm_X3_compare (va_Pc [.long x0, .long x2, .long x4, .long x6] (wU θ M)) (qI θ r M1) 0 0 (tA θ) :=
  k_met (by decide +kernel) (Nat.le_of_ble_eq_true rfl) (fun p e s m args below meth c C ls hl hw => t_X3_compare_0 C N _ _ _ _ _ _ _ h _ _ ls (lv_sub hl [0, 1, 2, 3] rfl) hw va_S.rf)
abbrev rm_X3_divisor : Room := { frames := 0, cells := 0, slots := 0, locals := 0 }
def J_X3_divisor_17 (θ : Th) (p : Program) (l : Launch) (e : Env) (s : State) (m : MethodId) (args : Array Value) (below : List Frame) (meth : Method) (c : Code) (g : Int64 → Int64 → Mm → Option (Int64 × Mm)) : Prop := ∀ (x4 : Int64) (x6 : Int64) (M : Mm) (r : Int64) (M1 : Mm), g x4 x6 M = some (r, M1) → ∀ (H : Heap) (locs : List Loc) (ls : Array Slot), lv_has ls 10 [(4, .long x4), (6, .long x6)] → wd θ M H → va_S (tA θ) s.heap H locs → W p l e rm_X3_divisor s m args below meth c H locs 0 0 (MQ below (qL θ r M1) args s 0 0 (tA θ)) (F0 m 17 ls [])
def J_X3_divisor_0 (θ : Th) (p : Program) (l : Launch) (e : Env) (s : State) (m : MethodId) (args : Array Value) (below : List Frame) (meth : Method) (c : Code) (g : Int64 → Int64 → Mm → Option (Int64 × Mm)) : Prop := ∀ (x0 : Int64) (x2 : Int64) (M : Mm) (r : Int64) (M1 : Mm), g x0 x2 M = some (r, M1) → ∀ (H : Heap) (locs : List Loc) (ls : Array Slot), lv_has ls 10 [(0, .long x0), (2, .long x2)] → wd θ M H → va_S (tA θ) s.heap H locs → W p l e rm_X3_divisor s m args below meth c H locs 0 0 (MQ below (qL θ r M1) args s 0 0 (tA θ)) (F0 m 0 ls [])
def F_X3_divisor_17 (N : Nat) (k17 : Int64 → Int64 → Mm → Option (Int64 × Mm)) (x4 : Int64) (x6 : Int64) (M : Mm) : Option (Int64 × Mm) :=
  (if (lg_cmp x6 0) = 0 then some (x4, M) else (if (x6 : Int64) = 0 then none else k17 x6 (x4 - x4 / x6 * x6) M))
abbrev b_X3_divisor_17 (N : Nat) : Int64 → Int64 → Mm → Option (Int64 × Mm) := lpT (fun _ _ _ => none) (F_X3_divisor_17 N) N
set_option maxRecDepth 100000 in
set_option maxHeartbeats 4000000 in
theorem tF_X3_divisor_17 {θ : Th} {p : Program} {l : Launch} {e : Env} {s : State} {m : MethodId} {args : Array Value} {below : List Frame} {meth : Method} {c : Code} (C : Cx θ p s m args meth c cX3_divisor 10 RX3 (some .long)) (N : Nat) {k17 : Int64 → Int64 → Mm → Option (Int64 × Mm)} (hk17 : J_X3_divisor_17 θ p l e s m args below meth c k17) : J_X3_divisor_17 θ p l e s m args below meth c (F_X3_divisor_17 N k17) := by
  intro x4 x6 M r M1 h H locs ls hl hw hS
  unfold F_X3_divisor_17 at h
  refine lv_lload C.1 C.2.1 dX3_divisor_17 (lv_at hl 1 rfl) ?_
  refine lv_lconst (v := 0) C.1 C.2.1 dX3_divisor_19 (by decide) ?_
  refine W.lcmp C.1 C.2.1 dX3_divisor_20 ?_
  refine lv_if_eq (tgt := 42) C.1 C.2.1 dX3_divisor_21 (by decide) (fun c21 => ?_) (fun c21 => ?_)
  · have h := it_t c21 h
    refine lv_lload C.1 C.2.1 dX3_divisor_42 (lv_at hl 0 rfl) ?_
    cases h
    exact k_retl C hw hS dX3_divisor_44
  · have h := it_f c21 h
    refine lv_lload C.1 C.2.1 dX3_divisor_24 (lv_at hl 0 rfl) ?_
    refine lv_lload C.1 C.2.1 dX3_divisor_26 (lv_at hl 1 rfl) ?_
    obtain ⟨hn28, h⟩ := it_n h
    refine lv_lrem C.1 C.2.1 dX3_divisor_28 hn28 ?_
    refine lv_lstore (lv' := [(8, .long (x4 - x4 / x6 * x6)), (4, .long x4), (6, .long x6)]) C.1 C.2.1 dX3_divisor_29 hl (by decide) rfl (fun ls hl => ?_)
    refine lv_lload C.1 C.2.1 dX3_divisor_31 (lv_at hl 2 rfl) ?_
    refine lv_lstore (lv' := [(4, .long x6), (8, .long (x4 - x4 / x6 * x6)), (6, .long x6)]) C.1 C.2.1 dX3_divisor_33 hl (by decide) rfl (fun ls hl => ?_)
    refine lv_lload C.1 C.2.1 dX3_divisor_35 (lv_at hl 1 rfl) ?_
    refine lv_lstore (lv' := [(6, .long (x4 - x4 / x6 * x6)), (4, .long x6), (8, .long (x4 - x4 / x6 * x6))]) C.1 C.2.1 dX3_divisor_37 hl (by decide) rfl (fun ls hl => ?_)
    refine lv_goto (tgt := 17) C.1 C.2.1 dX3_divisor_39 (by decide) ?_
    exact hk17 _ _ _ _ _ h _ _ ls (lv_sub hl [1, 0] rfl) hw hS
theorem t_X3_divisor_17 {θ : Th} {p : Program} {l : Launch} {e : Env} {s : State} {m : MethodId} {args : Array Value} {below : List Frame} {meth : Method} {c : Code} (C : Cx θ p s m args meth c cX3_divisor 10 RX3 (some .long)) (N : Nat) : J_X3_divisor_17 θ p l e s m args below meth c (b_X3_divisor_17 N) := lpT_ind (J := J_X3_divisor_17 θ p l e s m args below meth c) (fun _ _ _ _ _ h => by cases h) (fun k hk => tF_X3_divisor_17 C N hk) N
def b_X3_divisor_0 (N : Nat) (x0 : Int64) (x2 : Int64) (M : Mm) : Option (Int64 × Mm) :=
  (if 0 ≤ (lg_cmp x0 0) then b_X3_divisor_17 N x0 x2 M else b_X3_divisor_17 N (-x0) x2 M)
set_option maxRecDepth 100000 in
set_option maxHeartbeats 4000000 in
theorem t_X3_divisor_0 {θ : Th} {p : Program} {l : Launch} {e : Env} {s : State} {m : MethodId} {args : Array Value} {below : List Frame} {meth : Method} {c : Code} (C : Cx θ p s m args meth c cX3_divisor 10 RX3 (some .long)) (N : Nat) : J_X3_divisor_0 θ p l e s m args below meth c (b_X3_divisor_0 N) := by
  intro x0 x2 M r M1 h H locs ls hl hw hS
  unfold b_X3_divisor_0 at h
  refine lv_lload_n C.1 C.2.1 dX3_divisor_0 rfl (lv_at hl 0 rfl) ?_
  refine lv_lconst (v := 0) C.1 C.2.1 dX3_divisor_1 (by decide) ?_
  refine W.lcmp C.1 C.2.1 dX3_divisor_2 ?_
  refine lv_if_ge (tgt := 11) C.1 C.2.1 dX3_divisor_3 (by decide) (fun c3 => ?_) (fun c3 => ?_)
  · have h := it_t c3 h
    refine lv_lload_n C.1 C.2.1 dX3_divisor_11 rfl (lv_at hl 0 rfl) ?_
    refine lv_lstore (lv' := [(4, .long x0), (0, .long x0), (2, .long x2)]) C.1 C.2.1 dX3_divisor_12 hl (by decide) rfl (fun ls hl => ?_)
    refine lv_lload_n C.1 C.2.1 dX3_divisor_14 rfl (lv_at hl 2 rfl) ?_
    refine lv_lstore (lv' := [(6, .long x2), (4, .long x0), (0, .long x0), (2, .long x2)]) C.1 C.2.1 dX3_divisor_15 hl (by decide) rfl (fun ls hl => ?_)
    exact t_X3_divisor_17 C N _ _ _ _ _ h _ _ ls (lv_sub hl [1, 0] rfl) hw hS
  · have h := it_f c3 h
    refine lv_lload_n C.1 C.2.1 dX3_divisor_6 rfl (lv_at hl 0 rfl) ?_
    refine lv_lneg C.1 C.2.1 dX3_divisor_7 ?_
    refine lv_goto (tgt := 12) C.1 C.2.1 dX3_divisor_8 (by decide) ?_
    refine lv_lstore (lv' := [(4, .long (-x0)), (0, .long x0), (2, .long x2)]) C.1 C.2.1 dX3_divisor_12 hl (by decide) rfl (fun ls hl => ?_)
    refine lv_lload_n C.1 C.2.1 dX3_divisor_14 rfl (lv_at hl 2 rfl) ?_
    refine lv_lstore (lv' := [(6, .long x2), (4, .long (-x0)), (0, .long x0), (2, .long x2)]) C.1 C.2.1 dX3_divisor_15 hl (by decide) rfl (fun ls hl => ?_)
    exact t_X3_divisor_17 C N _ _ _ _ _ h _ _ ls (lv_sub hl [1, 0] rfl) hw hS
def f_X3_divisor (N : Nat) (x0 : Int64) (x2 : Int64) (M : Mm) : Option (Int64 × Mm) := b_X3_divisor_0 N x0 x2 M
set_option maxRecDepth 100000 in
theorem c_X3_divisor (θ : Th) (l : Launch) (N : Nat) {x0 : Int64} {x2 : Int64} {M : Mm} {r : Int64} {M1 : Mm} (h : f_X3_divisor N x0 x2 M = some (r, M1)) : Met l yX3_divisor (gws yX3_divisor cX3_divisor 10 (some .long)) rm_X3_divisor (va_Pc [.long x0, .long x2] (wU θ M)) (qL θ r M1) 0 0 (tA θ) :=
  k_met (by decide +kernel) (Nat.le_of_ble_eq_true rfl) (fun p e s m args below meth c C ls hl hw => t_X3_divisor_0 C N _ _ _ _ _ h _ _ ls (lv_sub hl [0, 1] rfl) hw va_S.rf)
abbrev rm_X3_told : Room := { frames := 1, cells := 0, slots := 0, locals := 29 }
def J_X3_told_0 (θ : Th) (p : Program) (l : Launch) (e : Env) (s : State) (m : MethodId) (args : Array Value) (below : List Frame) (meth : Method) (c : Code) (g : Int64 → Int64 → Int32 → Mm → Option (Int64 × Mm)) : Prop := ∀ (x0 : Int64) (x2 : Int64) (x4 : Int32) (M : Mm) (r : Int64) (M1 : Mm), g x0 x2 x4 M = some (r, M1) → ∀ (H : Heap) (locs : List Loc) (ls : Array Slot), lv_has ls 7 [(0, .long x0), (2, .long x2), (4, .int x4)] → wd θ M H → va_S (tA θ) s.heap H locs → W p l e rm_X3_told s m args below meth c H locs 0 0 (MQ below (qL θ r M1) args s 0 0 (tA θ)) (F0 m 0 ls [])
def b_X3_told_0 (N : Nat) (x0 : Int64) (x2 : Int64) (x4 : Int32) (M : Mm) : Option (Int64 × Mm) :=
  (f_X3_divisor N x0 x2 M).bind fun (r2, M2) => (if x4 = 0 then (if (r2 : Int64) = 0 then none else some ((x0 / r2), M2)) else (if (r2 : Int64) = 0 then none else some ((x2 / r2), M2)))
set_option maxRecDepth 100000 in
set_option maxHeartbeats 4000000 in
theorem t_X3_told_0 {θ : Th} {p : Program} {l : Launch} {e : Env} {s : State} {m : MethodId} {args : Array Value} {below : List Frame} {meth : Method} {c : Code} (C : Cx θ p s m args meth c cX3_told 7 RX3 (some .long)) (N : Nat) : J_X3_told_0 θ p l e s m args below meth c (b_X3_told_0 N) := by
  intro x0 x2 x4 M r M1 h H locs ls hl hw hS
  unfold b_X3_told_0 at h
  refine lv_lload_n C.1 C.2.1 dX3_told_0 rfl (lv_at hl 0 rfl) ?_
  refine lv_lload_n C.1 C.2.1 dX3_told_1 rfl (lv_at hl 1 rfl) ?_
  obtain ⟨⟨r2, M2⟩, h2, h⟩ := bind_s h
  dsimp only at h
  refine k_cl (k_runS (As := [.long x0, .long x2]) C cf_X3_divisor cs_X3_divisor w_692 (c_X3_divisor θ l N h2) ⟨rfl, rfl, Nat.le_of_ble_eq_true rfl, Nat.le_of_ble_eq_true rfl⟩ rfl hl.1 rfl (Nat.le_of_ble_eq_true rfl) dX3_told_2 ⟨Nat.zero_le _, Nat.zero_le _⟩ hw) hS (fun H locs hw hS => ?_)
  refine lv_lstore (lv' := [(5, .long r2), (0, .long x0), (2, .long x2), (4, .int x4)]) C.1 C.2.1 dX3_told_5 hl (by decide) rfl (fun ls hl => ?_)
  refine lv_iload C.1 C.2.1 dX3_told_7 (lv_at hl 3 rfl) ?_
  refine lv_if_ne (tgt := 19) C.1 C.2.1 dX3_told_9 (by decide) (fun c9 => ?_) (fun c9 => ?_)
  · have h := it_f c9 h
    refine lv_lload_n C.1 C.2.1 dX3_told_19 rfl (lv_at hl 2 rfl) ?_
    refine lv_lload C.1 C.2.1 dX3_told_20 (lv_at hl 0 rfl) ?_
    obtain ⟨hn22, h⟩ := it_n h
    refine lv_ldiv C.1 C.2.1 dX3_told_22 hn22 ?_
    cases h
    exact k_retl C hw hS dX3_told_23
  · have h := it_t c9 h
    refine lv_lload_n C.1 C.2.1 dX3_told_12 rfl (lv_at hl 1 rfl) ?_
    refine lv_lload C.1 C.2.1 dX3_told_13 (lv_at hl 0 rfl) ?_
    obtain ⟨hn15, h⟩ := it_n h
    refine lv_ldiv C.1 C.2.1 dX3_told_15 hn15 ?_
    refine lv_goto (tgt := 23) C.1 C.2.1 dX3_told_16 (by decide) ?_
    cases h
    exact k_retl C hw hS dX3_told_23
def f_X3_told (N : Nat) (x0 : Int64) (x2 : Int64) (x4 : Int32) (M : Mm) : Option (Int64 × Mm) := b_X3_told_0 N x0 x2 x4 M
set_option maxRecDepth 100000 in
theorem c_X3_told (θ : Th) (l : Launch) (N : Nat) {x0 : Int64} {x2 : Int64} {x4 : Int32} {M : Mm} {r : Int64} {M1 : Mm} (h : f_X3_told N x0 x2 x4 M = some (r, M1)) : Met l yX3_told (gws yX3_told cX3_told 7 (some .long)) rm_X3_told (va_Pc [.long x0, .long x2, .int x4] (wU θ M)) (qL θ r M1) 0 0 (tA θ) :=
  k_met (by decide +kernel) (Nat.le_of_ble_eq_true rfl) (fun p e s m args below meth c C ls hl hw => t_X3_told_0 C N _ _ _ _ _ _ h _ _ ls (lv_sub hl [0, 1, 2] rfl) hw va_S.rf)
abbrev rm_X3_better : Room := { frames := 1, cells := 0, slots := 0, locals := 27 }
def J_X3_better_88 (θ : Th) (p : Program) (l : Launch) (e : Env) (s : State) (m : MethodId) (args : Array Value) (below : List Frame) (meth : Method) (c : Code) (g : Int32 → Mm → Option (Int32 × Mm)) : Prop := ∀ (x3 : Int32) (M : Mm) (r : Int32) (M1 : Mm), g x3 M = some (r, M1) → ∀ (H : Heap) (locs : List Loc) (ls : Array Slot), lv_has ls 5 [(3, .int x3)] → wd θ M H → va_S (tA θ) s.heap H locs → W p l e rm_X3_better s m args below meth c H locs 0 0 (MQ below (qI θ r M1) args s 0 0 (tA θ)) (F0 m 88 ls [])
def J_X3_better_31 (θ : Th) (p : Program) (l : Launch) (e : Env) (s : State) (m : MethodId) (args : Array Value) (below : List Frame) (meth : Method) (c : Code) (g : Int32 → Int32 → Int32 → Int32 → Mm → Option (Int32 × Mm)) : Prop := ∀ (x1 : Int32) (x2 : Int32) (x3 : Int32) (x4 : Int32) (M : Mm) (r : Int32) (M1 : Mm), g x1 x2 x3 x4 M = some (r, M1) → ∀ (H : Heap) (locs : List Loc) (ls : Array Slot), lv_has ls 5 [(0, .ref (tad θ 3)), (1, .int x1), (2, .int x2), (3, .int x3), (4, .int x4)] → wd θ M H → va_S (tA θ) s.heap H locs → W p l e rm_X3_better s m args below meth c H locs 0 0 (MQ below (qI θ r M1) args s 0 0 (tA θ)) (F0 m 31 ls [])
def J_X3_better_0 (θ : Th) (p : Program) (l : Launch) (e : Env) (s : State) (m : MethodId) (args : Array Value) (below : List Frame) (meth : Method) (c : Code) (g : Int32 → Int32 → Mm → Option (Int32 × Mm)) : Prop := ∀ (x1 : Int32) (x2 : Int32) (M : Mm) (r : Int32) (M1 : Mm), g x1 x2 M = some (r, M1) → ∀ (H : Heap) (locs : List Loc) (ls : Array Slot), lv_has ls 5 [(0, .ref (tad θ 3)), (1, .int x1), (2, .int x2)] → wd θ M H → va_S (tA θ) s.heap H locs → W p l e rm_X3_better s m args below meth c H locs 0 0 (MQ below (qI θ r M1) args s 0 0 (tA θ)) (F0 m 0 ls [])
def b_X3_better_88 (N : Nat) (x3 : Int32) (M : Mm) : Option (Int32 × Mm) :=
  (if x3 ≤ 0 then some (0, M) else some (1, M))
set_option maxRecDepth 100000 in
set_option maxHeartbeats 4000000 in
theorem t_X3_better_88 {θ : Th} {p : Program} {l : Launch} {e : Env} {s : State} {m : MethodId} {args : Array Value} {below : List Frame} {meth : Method} {c : Code} (C : Cx θ p s m args meth c cX3_better 5 RX3 (some .boolean)) (N : Nat) : J_X3_better_88 θ p l e s m args below meth c (b_X3_better_88 N) := by
  intro x3 M r M1 h H locs ls hl hw hS
  unfold b_X3_better_88 at h
  refine lv_iload_n C.1 C.2.1 dX3_better_88 rfl (lv_at hl 0 rfl) ?_
  refine lv_if_le (tgt := 96) C.1 C.2.1 dX3_better_89 (by decide) (fun c89 => ?_) (fun c89 => ?_)
  · have h := it_t c89 h
    refine lv_iconst (v := 0) C.1 C.2.1 dX3_better_96 (by decide) ?_
    cases h
    exact k_retz C hw hS (Or.inl rfl) dX3_better_97
  · have h := it_f c89 h
    refine lv_iconst (v := 1) C.1 C.2.1 dX3_better_92 (by decide) ?_
    refine lv_goto (tgt := 97) C.1 C.2.1 dX3_better_93 (by decide) ?_
    cases h
    exact k_retz C hw hS (Or.inr rfl) dX3_better_97
def F_X3_better_31 (N : Nat) (k31 : Int32 → Int32 → Int32 → Int32 → Mm → Option (Int32 × Mm)) (x1 : Int32) (x2 : Int32) (x3 : Int32) (x4 : Int32) (M : Mm) : Option (Int32 × Mm) :=
  (if (M.1 4) ≤ x4 then b_X3_better_88 N x3 M else (if x3 = 0 then (rL M 2 ((5 * x2) + x4)).bind fun v54 => (rL M 3 x2).bind fun v60 => (rL M 2 ((5 * x1) + x4)).bind fun v71 => (rL M 3 x1).bind fun v77 => (f_X3_compare N v54 v60 v71 v77 M).bind fun (r78, M78) => k31 x1 x2 r78 (x4 + 1) M78 else b_X3_better_88 N x3 M))
abbrev b_X3_better_31 (N : Nat) : Int32 → Int32 → Int32 → Int32 → Mm → Option (Int32 × Mm) := lpT (fun _ _ _ _ _ => none) (F_X3_better_31 N) N
set_option maxRecDepth 100000 in
set_option maxHeartbeats 4000000 in
theorem tF_X3_better_31 {θ : Th} {p : Program} {l : Launch} {e : Env} {s : State} {m : MethodId} {args : Array Value} {below : List Frame} {meth : Method} {c : Code} (C : Cx θ p s m args meth c cX3_better 5 RX3 (some .boolean)) (N : Nat) {k31 : Int32 → Int32 → Int32 → Int32 → Mm → Option (Int32 × Mm)} (hk31 : J_X3_better_31 θ p l e s m args below meth c k31) : J_X3_better_31 θ p l e s m args below meth c (F_X3_better_31 N k31) := by
  intro x1 x2 x3 x4 M r M1 h H locs ls hl hw hS
  unfold F_X3_better_31 at h
  refine lv_iload C.1 C.2.1 dX3_better_31 (lv_at hl 4 rfl) ?_
  refine lv_aload_n C.1 C.2.1 dX3_better_33 rfl (lv_at hl 0 rfl) ?_
  refine gf_X3_n C hw w_525 dX3_better_34 ?_
  refine lv_icmp_ge (tgt := 88) C.1 C.2.1 dX3_better_37 (by decide) (fun c37 => ?_) (fun c37 => ?_)
  · have h := it_t c37 h
    exact t_X3_better_88 C N _ _ _ _ h _ _ ls (lv_sub hl [3] rfl) hw hS
  · have h := it_f c37 h
    refine lv_iload_n C.1 C.2.1 dX3_better_40 rfl (lv_at hl 3 rfl) ?_
    refine lv_if_ne (tgt := 88) C.1 C.2.1 dX3_better_41 (by decide) (fun c41 => ?_) (fun c41 => ?_)
    · have h := it_f c41 h
      exact t_X3_better_88 C N _ _ _ _ h _ _ ls (lv_sub hl [3] rfl) hw hS
    · have h := it_t c41 h
      refine lv_aload_n C.1 C.2.1 dX3_better_44 rfl (lv_at hl 0 rfl) ?_
      refine gf_X3_above C hw w_540 dX3_better_45 ?_
      refine lv_iconst (v := 5) C.1 C.2.1 dX3_better_48 (by decide) ?_
      refine lv_iload_n C.1 C.2.1 dX3_better_49 rfl (lv_at hl 2 rfl) ?_
      refine lv_imul C.1 C.2.1 dX3_better_50 ?_
      refine lv_iload C.1 C.2.1 dX3_better_51 (lv_at hl 4 rfl) ?_
      refine lv_iadd C.1 C.2.1 dX3_better_53 ?_
      obtain ⟨v54, h54, h⟩ := bind_s h
      refine k_lald C hw 2 h54 dX3_better_54 ?_
      refine lv_aload_n C.1 C.2.1 dX3_better_55 rfl (lv_at hl 0 rfl) ?_
      refine gf_X3_below C hw w_541 dX3_better_56 ?_
      refine lv_iload_n C.1 C.2.1 dX3_better_59 rfl (lv_at hl 2 rfl) ?_
      obtain ⟨v60, h60, h⟩ := bind_s h
      refine k_lald C hw 3 h60 dX3_better_60 ?_
      refine lv_aload_n C.1 C.2.1 dX3_better_61 rfl (lv_at hl 0 rfl) ?_
      refine gf_X3_above C hw w_540 dX3_better_62 ?_
      refine lv_iconst (v := 5) C.1 C.2.1 dX3_better_65 (by decide) ?_
      refine lv_iload_n C.1 C.2.1 dX3_better_66 rfl (lv_at hl 1 rfl) ?_
      refine lv_imul C.1 C.2.1 dX3_better_67 ?_
      refine lv_iload C.1 C.2.1 dX3_better_68 (lv_at hl 4 rfl) ?_
      refine lv_iadd C.1 C.2.1 dX3_better_70 ?_
      obtain ⟨v71, h71, h⟩ := bind_s h
      refine k_lald C hw 2 h71 dX3_better_71 ?_
      refine lv_aload_n C.1 C.2.1 dX3_better_72 rfl (lv_at hl 0 rfl) ?_
      refine gf_X3_below C hw w_541 dX3_better_73 ?_
      refine lv_iload_n C.1 C.2.1 dX3_better_76 rfl (lv_at hl 1 rfl) ?_
      obtain ⟨v77, h77, h⟩ := bind_s h
      refine k_lald C hw 3 h77 dX3_better_77 ?_
      obtain ⟨⟨r78, M78⟩, h78, h⟩ := bind_s h
      dsimp only at h
      refine k_ci (k_runS (As := [.long v54, .long v60, .long v71, .long v77]) C cf_X3_compare cs_X3_compare w_686 (c_X3_compare θ l N h78) ⟨rfl, rfl, Nat.le_of_ble_eq_true rfl, Nat.le_of_ble_eq_true rfl⟩ rfl hl.1 rfl (Nat.le_of_ble_eq_true rfl) dX3_better_78 ⟨Nat.zero_le _, Nat.zero_le _⟩ hw) hS (fun H locs hw hS => ?_)
      refine lv_istore_n (lv' := [(3, .int r78), (0, .ref (tad θ 3)), (1, .int x1), (2, .int x2), (4, .int x4)]) C.1 C.2.1 dX3_better_81 rfl hl (by decide) rfl (fun ls hl => ?_)
      refine lv_iinc (v := (x4 + 1)) (lv' := [(4, .int (x4 + 1)), (3, .int r78), (0, .ref (tad θ 3)), (1, .int x1), (2, .int x2)]) C.1 C.2.1 dX3_better_82 hl (k := 4) rfl rfl (by decide) rfl (fun ls hl => ?_)
      refine lv_goto (tgt := 31) C.1 C.2.1 dX3_better_85 (by decide) ?_
      exact hk31 _ _ _ _ _ _ _ h _ _ ls (lv_sub hl [2, 3, 4, 1, 0] rfl) hw hS
theorem t_X3_better_31 {θ : Th} {p : Program} {l : Launch} {e : Env} {s : State} {m : MethodId} {args : Array Value} {below : List Frame} {meth : Method} {c : Code} (C : Cx θ p s m args meth c cX3_better 5 RX3 (some .boolean)) (N : Nat) : J_X3_better_31 θ p l e s m args below meth c (b_X3_better_31 N) := lpT_ind (J := J_X3_better_31 θ p l e s m args below meth c) (fun _ _ _ _ _ _ _ h => by cases h) (fun k hk => tF_X3_better_31 C N hk) N
def b_X3_better_0 (N : Nat) (x1 : Int32) (x2 : Int32) (M : Mm) : Option (Int32 × Mm) :=
  (rL M 4 x1).bind fun v5 => (rL M 3 x1).bind fun v11 => (rL M 4 x2).bind fun v17 => (rL M 3 x2).bind fun v23 => (f_X3_compare N v5 v11 v17 v23 M).bind fun (r24, M24) => b_X3_better_31 N x1 x2 r24 0 M24
set_option maxRecDepth 100000 in
set_option maxHeartbeats 4000000 in
theorem t_X3_better_0 {θ : Th} {p : Program} {l : Launch} {e : Env} {s : State} {m : MethodId} {args : Array Value} {below : List Frame} {meth : Method} {c : Code} (C : Cx θ p s m args meth c cX3_better 5 RX3 (some .boolean)) (N : Nat) : J_X3_better_0 θ p l e s m args below meth c (b_X3_better_0 N) := by
  intro x1 x2 M r M1 h H locs ls hl hw hS
  unfold b_X3_better_0 at h
  refine lv_aload_n C.1 C.2.1 dX3_better_0 rfl (lv_at hl 0 rfl) ?_
  refine gf_X3_worth C hw w_542 dX3_better_1 ?_
  refine lv_iload_n C.1 C.2.1 dX3_better_4 rfl (lv_at hl 1 rfl) ?_
  obtain ⟨v5, h5, h⟩ := bind_s h
  refine k_lald C hw 4 h5 dX3_better_5 ?_
  refine lv_aload_n C.1 C.2.1 dX3_better_6 rfl (lv_at hl 0 rfl) ?_
  refine gf_X3_below C hw w_541 dX3_better_7 ?_
  refine lv_iload_n C.1 C.2.1 dX3_better_10 rfl (lv_at hl 1 rfl) ?_
  obtain ⟨v11, h11, h⟩ := bind_s h
  refine k_lald C hw 3 h11 dX3_better_11 ?_
  refine lv_aload_n C.1 C.2.1 dX3_better_12 rfl (lv_at hl 0 rfl) ?_
  refine gf_X3_worth C hw w_542 dX3_better_13 ?_
  refine lv_iload_n C.1 C.2.1 dX3_better_16 rfl (lv_at hl 2 rfl) ?_
  obtain ⟨v17, h17, h⟩ := bind_s h
  refine k_lald C hw 4 h17 dX3_better_17 ?_
  refine lv_aload_n C.1 C.2.1 dX3_better_18 rfl (lv_at hl 0 rfl) ?_
  refine gf_X3_below C hw w_541 dX3_better_19 ?_
  refine lv_iload_n C.1 C.2.1 dX3_better_22 rfl (lv_at hl 2 rfl) ?_
  obtain ⟨v23, h23, h⟩ := bind_s h
  refine k_lald C hw 3 h23 dX3_better_23 ?_
  obtain ⟨⟨r24, M24⟩, h24, h⟩ := bind_s h
  dsimp only at h
  refine k_ci (k_runS (As := [.long v5, .long v11, .long v17, .long v23]) C cf_X3_compare cs_X3_compare w_686 (c_X3_compare θ l N h24) ⟨rfl, rfl, Nat.le_of_ble_eq_true rfl, Nat.le_of_ble_eq_true rfl⟩ rfl hl.1 rfl (Nat.le_of_ble_eq_true rfl) dX3_better_24 ⟨Nat.zero_le _, Nat.zero_le _⟩ hw) hS (fun H locs hw hS => ?_)
  refine lv_istore_n (lv' := [(3, .int r24), (0, .ref (tad θ 3)), (1, .int x1), (2, .int x2)]) C.1 C.2.1 dX3_better_27 rfl hl (by decide) rfl (fun ls hl => ?_)
  refine lv_iconst (v := 0) C.1 C.2.1 dX3_better_28 (by decide) ?_
  refine lv_istore (lv' := [(4, .int 0), (3, .int r24), (0, .ref (tad θ 3)), (1, .int x1), (2, .int x2)]) C.1 C.2.1 dX3_better_29 hl (by decide) rfl (fun ls hl => ?_)
  exact t_X3_better_31 C N _ _ _ _ _ _ _ h _ _ ls (lv_sub hl [2, 3, 4, 1, 0] rfl) hw hS
def f_X3_better (N : Nat) (x1 : Int32) (x2 : Int32) (M : Mm) : Option (Int32 × Mm) := b_X3_better_0 N x1 x2 M
set_option maxRecDepth 100000 in
theorem c_X3_better (θ : Th) (l : Launch) (N : Nat) {x1 : Int32} {x2 : Int32} {M : Mm} {r : Int32} {M1 : Mm} (h : f_X3_better N x1 x2 M = some (r, M1)) : Met l yX3_better (gws yX3_better cX3_better 5 (some .boolean)) rm_X3_better (va_Pc [.ref (tad θ 3), .int x1, .int x2] (wU θ M)) (qI θ r M1) 0 0 (tA θ) :=
  k_met (by decide +kernel) (Nat.le_of_ble_eq_true rfl) (fun p e s m args below meth c C ls hl hw => t_X3_better_0 C N _ _ _ _ _ h _ _ ls (lv_sub hl [0, 1, 2] rfl) hw va_S.rf)
abbrev rm_X3_best : Room := { frames := 2, cells := 0, slots := 0, locals := 51 }
def J_X3_best_4 (θ : Th) (p : Program) (l : Launch) (e : Env) (s : State) (m : MethodId) (args : Array Value) (below : List Frame) (meth : Method) (c : Code) (g : Int32 → Int32 → Mm → Option (Int32 × Mm)) : Prop := ∀ (x1 : Int32) (x2 : Int32) (M : Mm) (r : Int32) (M1 : Mm), g x1 x2 M = some (r, M1) → ∀ (H : Heap) (locs : List Loc) (ls : Array Slot), lv_has ls 3 [(0, .ref (tad θ 3)), (1, .int x1), (2, .int x2)] → wd θ M H → va_S (tA θ) s.heap H locs → W p l e rm_X3_best s m args below meth c H locs 0 0 (MQ below (qI θ r M1) args s 0 0 (tA θ)) (F0 m 4 ls [])
def J_X3_best_0 (θ : Th) (p : Program) (l : Launch) (e : Env) (s : State) (m : MethodId) (args : Array Value) (below : List Frame) (meth : Method) (c : Code) (g : Mm → Option (Int32 × Mm)) : Prop := ∀ (M : Mm) (r : Int32) (M1 : Mm), g M = some (r, M1) → ∀ (H : Heap) (locs : List Loc) (ls : Array Slot), lv_has ls 3 [(0, .ref (tad θ 3))] → wd θ M H → va_S (tA θ) s.heap H locs → W p l e rm_X3_best s m args below meth c H locs 0 0 (MQ below (qI θ r M1) args s 0 0 (tA θ)) (F0 m 0 ls [])
def F_X3_best_4 (N : Nat) (k4 : Int32 → Int32 → Mm → Option (Int32 × Mm)) (x1 : Int32) (x2 : Int32) (M : Mm) : Option (Int32 × Mm) :=
  (if (M.1 9) ≤ x2 then some (x1, M) else (f_X3_better N x2 x1 M).bind fun (r15, M15) => (if r15 = 0 then k4 x1 (x2 + 1) M15 else k4 x2 (x2 + 1) M15))
abbrev b_X3_best_4 (N : Nat) : Int32 → Int32 → Mm → Option (Int32 × Mm) := lpT (fun _ _ _ => none) (F_X3_best_4 N) N
set_option maxRecDepth 100000 in
set_option maxHeartbeats 4000000 in
theorem tF_X3_best_4 {θ : Th} {p : Program} {l : Launch} {e : Env} {s : State} {m : MethodId} {args : Array Value} {below : List Frame} {meth : Method} {c : Code} (C : Cx θ p s m args meth c cX3_best 3 RX3 (some .int)) (N : Nat) {k4 : Int32 → Int32 → Mm → Option (Int32 × Mm)} (hk4 : J_X3_best_4 θ p l e s m args below meth c k4) : J_X3_best_4 θ p l e s m args below meth c (F_X3_best_4 N k4) := by
  intro x1 x2 M r M1 h H locs ls hl hw hS
  unfold F_X3_best_4 at h
  refine lv_iload_n C.1 C.2.1 dX3_best_4 rfl (lv_at hl 2 rfl) ?_
  refine lv_aload_n C.1 C.2.1 dX3_best_5 rfl (lv_at hl 0 rfl) ?_
  refine gf_X3_found C hw w_539 dX3_best_6 ?_
  refine lv_icmp_ge (tgt := 33) C.1 C.2.1 dX3_best_9 (by decide) (fun c9 => ?_) (fun c9 => ?_)
  · have h := it_t c9 h
    refine lv_iload_n C.1 C.2.1 dX3_best_33 rfl (lv_at hl 1 rfl) ?_
    cases h
    exact k_reti C hw hS dX3_best_34
  · have h := it_f c9 h
    refine lv_aload_n C.1 C.2.1 dX3_best_12 rfl (lv_at hl 0 rfl) ?_
    refine lv_iload_n C.1 C.2.1 dX3_best_13 rfl (lv_at hl 2 rfl) ?_
    refine lv_iload_n C.1 C.2.1 dX3_best_14 rfl (lv_at hl 1 rfl) ?_
    obtain ⟨⟨r15, M15⟩, h15, h⟩ := bind_s h
    dsimp only at h
    refine k_ci (k_runV (As := [.int x2, .int x1]) C cf_X3_better cv_X3_better w_682 rc3 (c_X3_better θ l N h15) ⟨rfl, rfl, Nat.le_of_ble_eq_true rfl, Nat.le_of_ble_eq_true rfl⟩ rfl hl.1 rfl (Nat.le_of_ble_eq_true rfl) dX3_best_15 ⟨Nat.zero_le _, Nat.zero_le _⟩ hw) hS (fun H locs hw hS => ?_)
    refine lv_if_eq (tgt := 25) C.1 C.2.1 dX3_best_18 (by decide) (fun c18 => ?_) (fun c18 => ?_)
    · have h := it_t c18 h
      refine lv_iload_n C.1 C.2.1 dX3_best_25 rfl (lv_at hl 1 rfl) ?_
      refine lv_istore_n (lv' := [(1, .int x1), (0, .ref (tad θ 3)), (2, .int x2)]) C.1 C.2.1 dX3_best_26 rfl hl (by decide) rfl (fun ls hl => ?_)
      refine lv_iinc (v := (x2 + 1)) (lv' := [(2, .int (x2 + 1)), (1, .int x1), (0, .ref (tad θ 3))]) C.1 C.2.1 dX3_best_27 hl (k := 2) rfl rfl (by decide) rfl (fun ls hl => ?_)
      refine lv_goto (tgt := 4) C.1 C.2.1 dX3_best_30 (by decide) ?_
      exact hk4 _ _ _ _ _ h _ _ ls (lv_sub hl [2, 1, 0] rfl) hw hS
    · have h := it_f c18 h
      refine lv_iload_n C.1 C.2.1 dX3_best_21 rfl (lv_at hl 2 rfl) ?_
      refine lv_goto (tgt := 26) C.1 C.2.1 dX3_best_22 (by decide) ?_
      refine lv_istore_n (lv' := [(1, .int x2), (0, .ref (tad θ 3)), (2, .int x2)]) C.1 C.2.1 dX3_best_26 rfl hl (by decide) rfl (fun ls hl => ?_)
      refine lv_iinc (v := (x2 + 1)) (lv' := [(2, .int (x2 + 1)), (1, .int x2), (0, .ref (tad θ 3))]) C.1 C.2.1 dX3_best_27 hl (k := 2) rfl rfl (by decide) rfl (fun ls hl => ?_)
      refine lv_goto (tgt := 4) C.1 C.2.1 dX3_best_30 (by decide) ?_
      exact hk4 _ _ _ _ _ h _ _ ls (lv_sub hl [2, 1, 0] rfl) hw hS
theorem t_X3_best_4 {θ : Th} {p : Program} {l : Launch} {e : Env} {s : State} {m : MethodId} {args : Array Value} {below : List Frame} {meth : Method} {c : Code} (C : Cx θ p s m args meth c cX3_best 3 RX3 (some .int)) (N : Nat) : J_X3_best_4 θ p l e s m args below meth c (b_X3_best_4 N) := lpT_ind (J := J_X3_best_4 θ p l e s m args below meth c) (fun _ _ _ _ _ h => by cases h) (fun k hk => tF_X3_best_4 C N hk) N
def b_X3_best_0 (N : Nat) (M : Mm) : Option (Int32 × Mm) :=
  b_X3_best_4 N 0 1 M
set_option maxRecDepth 100000 in
set_option maxHeartbeats 4000000 in
theorem t_X3_best_0 {θ : Th} {p : Program} {l : Launch} {e : Env} {s : State} {m : MethodId} {args : Array Value} {below : List Frame} {meth : Method} {c : Code} (C : Cx θ p s m args meth c cX3_best 3 RX3 (some .int)) (N : Nat) : J_X3_best_0 θ p l e s m args below meth c (b_X3_best_0 N) := by
  intro M r M1 h H locs ls hl hw hS
  unfold b_X3_best_0 at h
  refine lv_iconst (v := 0) C.1 C.2.1 dX3_best_0 (by decide) ?_
  refine lv_istore_n (lv' := [(1, .int 0), (0, .ref (tad θ 3))]) C.1 C.2.1 dX3_best_1 rfl hl (by decide) rfl (fun ls hl => ?_)
  refine lv_iconst (v := 1) C.1 C.2.1 dX3_best_2 (by decide) ?_
  refine lv_istore_n (lv' := [(2, .int 1), (1, .int 0), (0, .ref (tad θ 3))]) C.1 C.2.1 dX3_best_3 rfl hl (by decide) rfl (fun ls hl => ?_)
  exact t_X3_best_4 C N _ _ _ _ _ h _ _ ls (lv_sub hl [2, 1, 0] rfl) hw hS
def f_X3_best (N : Nat) (M : Mm) : Option (Int32 × Mm) := b_X3_best_0 N M
set_option maxRecDepth 100000 in
theorem c_X3_best (θ : Th) (l : Launch) (N : Nat) {M : Mm} {r : Int32} {M1 : Mm} (h : f_X3_best N M = some (r, M1)) : Met l yX3_best (gws yX3_best cX3_best 3 (some .int)) rm_X3_best (va_Pc [.ref (tad θ 3)] (wU θ M)) (qI θ r M1) 0 0 (tA θ) :=
  k_met (by decide +kernel) (Nat.le_of_ble_eq_true rfl) (fun p e s m args below meth c C ls hl hw => t_X3_best_0 C N _ _ _ h _ _ ls (lv_sub hl [0] rfl) hw va_S.rf)
abbrev rm_X3_value : Room := { frames := 6, cells := 0, slots := 0, locals := 145 }
def J_X3_value_13 (θ : Th) (p : Program) (l : Launch) (e : Env) (s : State) (m : MethodId) (args : Array Value) (below : List Frame) (meth : Method) (c : Code) (g : Int32 → Int32 → Mm → Option (Int64 × Mm)) : Prop := ∀ (x1 : Int32) (s0 : Int32) (M : Mm) (r : Int64) (M1 : Mm), g x1 s0 M = some (r, M1) → ∀ (H : Heap) (locs : List Loc) (ls : Array Slot), lv_has ls 3 [(0, .ref (tad θ 3)), (1, .int x1)] → wd θ M H → va_S (tA θ) s.heap H locs → W p l e rm_X3_value s m args below meth c H locs 0 0 (MQ below (qL θ r M1) args s 0 0 (tA θ)) (F0 m 13 ls [.int s0, .ref (tad θ 3)])
def J_X3_value_0 (θ : Th) (p : Program) (l : Launch) (e : Env) (s : State) (m : MethodId) (args : Array Value) (below : List Frame) (meth : Method) (c : Code) (g : Int32 → Mm → Option (Int64 × Mm)) : Prop := ∀ (x1 : Int32) (M : Mm) (r : Int64) (M1 : Mm), g x1 M = some (r, M1) → ∀ (H : Heap) (locs : List Loc) (ls : Array Slot), lv_has ls 3 [(0, .ref (tad θ 3)), (1, .int x1)] → wd θ M H → va_S (tA θ) s.heap H locs → W p l e rm_X3_value s m args below meth c H locs 0 0 (MQ below (qL θ r M1) args s 0 0 (tA θ)) (F0 m 0 ls [])
def b_X3_value_13 (N : Nat) (x1 : Int32) (s0 : Int32) (M : Mm) : Option (Int64 × Mm) :=
  (f_X3_outside N x1 0 1 M).bind fun (r16, M16) => (f_X3_refuses N s0 r16 0 0 M16).bind fun (r21, M21) => (if r21 = 0 then (f_X3_everyRow N M21).bind fun (r31, M31) => (f_X3_collect N r31 0 M31).bind fun M35 => (f_X3_best N M35).bind fun (r39, M39) => (rL M39 4 r39).bind fun v48 => (rL M39 3 r39).bind fun v54 => (f_X3_told N v48 v54 x1 M39).bind fun (r56, M56) => some (r56, M56) else some (0, M21))
set_option maxRecDepth 100000 in
set_option maxHeartbeats 4000000 in
theorem t_X3_value_13 {θ : Th} {p : Program} {l : Launch} {e : Env} {s : State} {m : MethodId} {args : Array Value} {below : List Frame} {meth : Method} {c : Code} (C : Cx θ p s m args meth c cX3_value 3 RX3 (some .long)) (N : Nat) : J_X3_value_13 θ p l e s m args below meth c (b_X3_value_13 N) := by
  intro x1 s0 M r M1 h H locs ls hl hw hS
  unfold b_X3_value_13 at h
  refine lv_iload_n C.1 C.2.1 dX3_value_13 rfl (lv_at hl 1 rfl) ?_
  refine lv_iconst (v := 0) C.1 C.2.1 dX3_value_14 (by decide) ?_
  refine lv_iconst (v := 1) C.1 C.2.1 dX3_value_15 (by decide) ?_
  obtain ⟨⟨r16, M16⟩, h16, h⟩ := bind_s h
  dsimp only at h
  refine k_ci (k_runS (As := [.int x1, .int 0, .int 1]) C cf_X3_outside cs_X3_outside w_594 (c_X3_outside θ l N h16) ⟨rfl, rfl, Nat.le_of_ble_eq_true rfl, Nat.le_of_ble_eq_true rfl⟩ rfl hl.1 rfl (Nat.le_of_ble_eq_true rfl) dX3_value_16 ⟨Nat.zero_le _, Nat.zero_le _⟩ hw) hS (fun H locs hw hS => ?_)
  refine lv_iconst (v := 0) C.1 C.2.1 dX3_value_19 (by decide) ?_
  refine lv_iconst (v := 0) C.1 C.2.1 dX3_value_20 (by decide) ?_
  obtain ⟨⟨r21, M21⟩, h21, h⟩ := bind_s h
  dsimp only at h
  refine k_ci (k_runV (As := [.int s0, .int r16, .int 0, .int 0]) C cf_X3_refuses cv_X3_refuses w_597 rc3 (c_X3_refuses θ l N h21) ⟨rfl, rfl, Nat.le_of_ble_eq_true rfl, Nat.le_of_ble_eq_true rfl⟩ rfl hl.1 rfl (Nat.le_of_ble_eq_true rfl) dX3_value_21 ⟨Nat.zero_le _, Nat.zero_le _⟩ hw) hS (fun H locs hw hS => ?_)
  refine lv_if_eq (tgt := 29) C.1 C.2.1 dX3_value_24 (by decide) (fun c24 => ?_) (fun c24 => ?_)
  · have h := it_t c24 h
    refine lv_aload_n C.1 C.2.1 dX3_value_29 rfl (lv_at hl 0 rfl) ?_
    refine lv_aload_n C.1 C.2.1 dX3_value_30 rfl (lv_at hl 0 rfl) ?_
    obtain ⟨⟨r31, M31⟩, h31, h⟩ := bind_s h
    dsimp only at h
    refine k_ci (k_runV (As := []) C cf_X3_everyRow cv_X3_everyRow w_625 rc3 (c_X3_everyRow θ l N h31) ⟨rfl, rfl, Nat.le_of_ble_eq_true rfl, Nat.le_of_ble_eq_true rfl⟩ rfl hl.1 rfl (Nat.le_of_ble_eq_true rfl) dX3_value_31 ⟨Nat.zero_le _, Nat.zero_le _⟩ hw) hS (fun H locs hw hS => ?_)
    refine lv_iconst (v := 0) C.1 C.2.1 dX3_value_34 (by decide) ?_
    obtain ⟨M35, h35, h⟩ := bind_s h
    refine k_cv (k_runV (As := [.int r31, .int 0]) C cf_X3_collect cv_X3_collect w_633 rc3 (c_X3_collect θ l N h35) ⟨rfl, rfl, Nat.le_of_ble_eq_true rfl, Nat.le_of_ble_eq_true rfl⟩ rfl hl.1 rfl (Nat.le_of_ble_eq_true rfl) dX3_value_35 ⟨Nat.zero_le _, Nat.zero_le _⟩ hw) hS (fun H locs hw hS => ?_)
    refine lv_aload_n C.1 C.2.1 dX3_value_38 rfl (lv_at hl 0 rfl) ?_
    obtain ⟨⟨r39, M39⟩, h39, h⟩ := bind_s h
    dsimp only at h
    refine k_ci (k_runV (As := []) C cf_X3_best cv_X3_best w_678 rc3 (c_X3_best θ l N h39) ⟨rfl, rfl, Nat.le_of_ble_eq_true rfl, Nat.le_of_ble_eq_true rfl⟩ rfl hl.1 rfl (Nat.le_of_ble_eq_true rfl) dX3_value_39 ⟨Nat.zero_le _, Nat.zero_le _⟩ hw) hS (fun H locs hw hS => ?_)
    refine lv_istore_n (lv' := [(2, .int r39), (0, .ref (tad θ 3)), (1, .int x1)]) C.1 C.2.1 dX3_value_42 rfl hl (by decide) rfl (fun ls hl => ?_)
    refine lv_aload_n C.1 C.2.1 dX3_value_43 rfl (lv_at hl 1 rfl) ?_
    refine gf_X3_worth C hw w_542 dX3_value_44 ?_
    refine lv_iload_n C.1 C.2.1 dX3_value_47 rfl (lv_at hl 0 rfl) ?_
    obtain ⟨v48, h48, h⟩ := bind_s h
    refine k_lald C hw 4 h48 dX3_value_48 ?_
    refine lv_aload_n C.1 C.2.1 dX3_value_49 rfl (lv_at hl 1 rfl) ?_
    refine gf_X3_below C hw w_541 dX3_value_50 ?_
    refine lv_iload_n C.1 C.2.1 dX3_value_53 rfl (lv_at hl 0 rfl) ?_
    obtain ⟨v54, h54, h⟩ := bind_s h
    refine k_lald C hw 3 h54 dX3_value_54 ?_
    refine lv_iload_n C.1 C.2.1 dX3_value_55 rfl (lv_at hl 2 rfl) ?_
    obtain ⟨⟨r56, M56⟩, h56, h⟩ := bind_s h
    dsimp only at h
    refine k_cl (k_runS (As := [.long v48, .long v54, .int x1]) C cf_X3_told cs_X3_told w_689 (c_X3_told θ l N h56) ⟨rfl, rfl, Nat.le_of_ble_eq_true rfl, Nat.le_of_ble_eq_true rfl⟩ rfl hl.1 rfl (Nat.le_of_ble_eq_true rfl) dX3_value_56 ⟨Nat.zero_le _, Nat.zero_le _⟩ hw) hS (fun H locs hw hS => ?_)
    cases h
    exact k_retl C hw hS dX3_value_59
  · have h := it_f c24 h
    refine lv_lconst (v := 0) C.1 C.2.1 dX3_value_27 (by decide) ?_
    cases h
    exact k_retl C hw hS dX3_value_28
def b_X3_value_0 (N : Nat) (x1 : Int32) (M : Mm) : Option (Int64 × Mm) :=
  (f_X3_status N M).bind fun (r2, M2) => (if r2 = 0 then b_X3_value_13 N x1 0 M2 else b_X3_value_13 N x1 1 M2)
set_option maxRecDepth 100000 in
set_option maxHeartbeats 4000000 in
theorem t_X3_value_0 {θ : Th} {p : Program} {l : Launch} {e : Env} {s : State} {m : MethodId} {args : Array Value} {below : List Frame} {meth : Method} {c : Code} (C : Cx θ p s m args meth c cX3_value 3 RX3 (some .long)) (N : Nat) : J_X3_value_0 θ p l e s m args below meth c (b_X3_value_0 N) := by
  intro x1 M r M1 h H locs ls hl hw hS
  unfold b_X3_value_0 at h
  refine lv_aload_n C.1 C.2.1 dX3_value_0 rfl (lv_at hl 0 rfl) ?_
  refine lv_aload_n C.1 C.2.1 dX3_value_1 rfl (lv_at hl 0 rfl) ?_
  obtain ⟨⟨r2, M2⟩, h2, h⟩ := bind_s h
  dsimp only at h
  refine k_ci (k_runV (As := []) C cf_X3_status cv_X3_status w_621 rc3 (c_X3_status θ l N h2) ⟨rfl, rfl, Nat.le_of_ble_eq_true rfl, Nat.le_of_ble_eq_true rfl⟩ rfl hl.1 rfl (Nat.le_of_ble_eq_true rfl) dX3_value_2 ⟨Nat.zero_le _, Nat.zero_le _⟩ hw) hS (fun H locs hw hS => ?_)
  refine lv_if_eq (tgt := 12) C.1 C.2.1 dX3_value_5 (by decide) (fun c5 => ?_) (fun c5 => ?_)
  · have h := it_t c5 h
    refine lv_iconst (v := 0) C.1 C.2.1 dX3_value_12 (by decide) ?_
    exact t_X3_value_13 C N _ _ _ _ _ h _ _ ls (lv_sub hl [0, 1] rfl) hw hS
  · have h := it_f c5 h
    refine lv_iconst (v := 1) C.1 C.2.1 dX3_value_8 (by decide) ?_
    refine lv_goto (tgt := 13) C.1 C.2.1 dX3_value_9 (by decide) ?_
    exact t_X3_value_13 C N _ _ _ _ _ h _ _ ls (lv_sub hl [0, 1] rfl) hw hS
def f_X3_value (N : Nat) (x1 : Int32) (M : Mm) : Option (Int64 × Mm) := b_X3_value_0 N x1 M
set_option maxRecDepth 100000 in
theorem c_X3_value (θ : Th) (l : Launch) (N : Nat) {x1 : Int32} {M : Mm} {r : Int64} {M1 : Mm} (h : f_X3_value N x1 M = some (r, M1)) : Met l yX3_value (gws yX3_value cX3_value 3 (some .long)) rm_X3_value (va_Pc [.ref (tad θ 3), .int x1] (wU θ M)) (qL θ r M1) 0 0 (tA θ) :=
  k_met (by decide +kernel) (Nat.le_of_ble_eq_true rfl) (fun p e s m args below meth c C ls hl hw => t_X3_value_0 C N _ _ _ _ h _ _ ls (lv_sub hl [0, 1] rfl) hw va_S.rf)
abbrev rm_X3_point : Room := { frames := 6, cells := 0, slots := 0, locals := 145 }
def J_X3_point_13 (θ : Th) (p : Program) (l : Launch) (e : Env) (s : State) (m : MethodId) (args : Array Value) (below : List Frame) (meth : Method) (c : Code) (g : Int32 → Int32 → Int32 → Mm → Option (Int64 × Mm)) : Prop := ∀ (x1 : Int32) (x2 : Int32) (s0 : Int32) (M : Mm) (r : Int64) (M1 : Mm), g x1 x2 s0 M = some (r, M1) → ∀ (H : Heap) (locs : List Loc) (ls : Array Slot), lv_has ls 4 [(0, .ref (tad θ 3)), (1, .int x1), (2, .int x2)] → wd θ M H → va_S (tA θ) s.heap H locs → W p l e rm_X3_point s m args below meth c H locs 0 0 (MQ below (qL θ r M1) args s 0 0 (tA θ)) (F0 m 13 ls [.int s0, .ref (tad θ 3)])
def J_X3_point_0 (θ : Th) (p : Program) (l : Launch) (e : Env) (s : State) (m : MethodId) (args : Array Value) (below : List Frame) (meth : Method) (c : Code) (g : Int32 → Int32 → Mm → Option (Int64 × Mm)) : Prop := ∀ (x1 : Int32) (x2 : Int32) (M : Mm) (r : Int64) (M1 : Mm), g x1 x2 M = some (r, M1) → ∀ (H : Heap) (locs : List Loc) (ls : Array Slot), lv_has ls 4 [(0, .ref (tad θ 3)), (1, .int x1), (2, .int x2)] → wd θ M H → va_S (tA θ) s.heap H locs → W p l e rm_X3_point s m args below meth c H locs 0 0 (MQ below (qL θ r M1) args s 0 0 (tA θ)) (F0 m 0 ls [])
def b_X3_point_13 (N : Nat) (x1 : Int32) (x2 : Int32) (s0 : Int32) (M : Mm) : Option (Int64 × Mm) :=
  (f_X3_outside N x1 0 ((M.1 4) - 1) M).bind fun (r21, M21) => (f_X3_outside N x2 0 1 M21).bind fun (r27, M27) => (f_X3_refuses N s0 r21 r27 0 M27).bind fun (r31, M31) => (if r31 = 0 then (f_X3_everyRow N M31).bind fun (r41, M41) => (f_X3_collect N r41 0 M41).bind fun M45 => (f_X3_best N M45).bind fun (r49, M49) => (rL M49 2 ((5 * r49) + x1)).bind fun v62 => (rL M49 3 r49).bind fun v68 => (f_X3_told N v62 v68 x2 M49).bind fun (r70, M70) => some (r70, M70) else some (0, M31))
set_option maxRecDepth 100000 in
set_option maxHeartbeats 4000000 in
theorem t_X3_point_13 {θ : Th} {p : Program} {l : Launch} {e : Env} {s : State} {m : MethodId} {args : Array Value} {below : List Frame} {meth : Method} {c : Code} (C : Cx θ p s m args meth c cX3_point 4 RX3 (some .long)) (N : Nat) : J_X3_point_13 θ p l e s m args below meth c (b_X3_point_13 N) := by
  intro x1 x2 s0 M r M1 h H locs ls hl hw hS
  unfold b_X3_point_13 at h
  refine lv_iload_n C.1 C.2.1 dX3_point_13 rfl (lv_at hl 1 rfl) ?_
  refine lv_iconst (v := 0) C.1 C.2.1 dX3_point_14 (by decide) ?_
  refine lv_aload_n C.1 C.2.1 dX3_point_15 rfl (lv_at hl 0 rfl) ?_
  refine gf_X3_n C hw w_525 dX3_point_16 ?_
  refine lv_iconst (v := 1) C.1 C.2.1 dX3_point_19 (by decide) ?_
  refine lv_isub C.1 C.2.1 dX3_point_20 ?_
  obtain ⟨⟨r21, M21⟩, h21, h⟩ := bind_s h
  dsimp only at h
  refine k_ci (k_runS (As := [.int x1, .int 0, .int ((M.1 4) - 1)]) C cf_X3_outside cs_X3_outside w_594 (c_X3_outside θ l N h21) ⟨rfl, rfl, Nat.le_of_ble_eq_true rfl, Nat.le_of_ble_eq_true rfl⟩ rfl hl.1 rfl (Nat.le_of_ble_eq_true rfl) dX3_point_21 ⟨Nat.zero_le _, Nat.zero_le _⟩ hw) hS (fun H locs hw hS => ?_)
  refine lv_iload_n C.1 C.2.1 dX3_point_24 rfl (lv_at hl 2 rfl) ?_
  refine lv_iconst (v := 0) C.1 C.2.1 dX3_point_25 (by decide) ?_
  refine lv_iconst (v := 1) C.1 C.2.1 dX3_point_26 (by decide) ?_
  obtain ⟨⟨r27, M27⟩, h27, h⟩ := bind_s h
  dsimp only at h
  refine k_ci (k_runS (As := [.int x2, .int 0, .int 1]) C cf_X3_outside cs_X3_outside w_594 (c_X3_outside θ l N h27) ⟨rfl, rfl, Nat.le_of_ble_eq_true rfl, Nat.le_of_ble_eq_true rfl⟩ rfl hl.1 rfl (Nat.le_of_ble_eq_true rfl) dX3_point_27 ⟨Nat.zero_le _, Nat.zero_le _⟩ hw) hS (fun H locs hw hS => ?_)
  refine lv_iconst (v := 0) C.1 C.2.1 dX3_point_30 (by decide) ?_
  obtain ⟨⟨r31, M31⟩, h31, h⟩ := bind_s h
  dsimp only at h
  refine k_ci (k_runV (As := [.int s0, .int r21, .int r27, .int 0]) C cf_X3_refuses cv_X3_refuses w_597 rc3 (c_X3_refuses θ l N h31) ⟨rfl, rfl, Nat.le_of_ble_eq_true rfl, Nat.le_of_ble_eq_true rfl⟩ rfl hl.1 rfl (Nat.le_of_ble_eq_true rfl) dX3_point_31 ⟨Nat.zero_le _, Nat.zero_le _⟩ hw) hS (fun H locs hw hS => ?_)
  refine lv_if_eq (tgt := 39) C.1 C.2.1 dX3_point_34 (by decide) (fun c34 => ?_) (fun c34 => ?_)
  · have h := it_t c34 h
    refine lv_aload_n C.1 C.2.1 dX3_point_39 rfl (lv_at hl 0 rfl) ?_
    refine lv_aload_n C.1 C.2.1 dX3_point_40 rfl (lv_at hl 0 rfl) ?_
    obtain ⟨⟨r41, M41⟩, h41, h⟩ := bind_s h
    dsimp only at h
    refine k_ci (k_runV (As := []) C cf_X3_everyRow cv_X3_everyRow w_625 rc3 (c_X3_everyRow θ l N h41) ⟨rfl, rfl, Nat.le_of_ble_eq_true rfl, Nat.le_of_ble_eq_true rfl⟩ rfl hl.1 rfl (Nat.le_of_ble_eq_true rfl) dX3_point_41 ⟨Nat.zero_le _, Nat.zero_le _⟩ hw) hS (fun H locs hw hS => ?_)
    refine lv_iconst (v := 0) C.1 C.2.1 dX3_point_44 (by decide) ?_
    obtain ⟨M45, h45, h⟩ := bind_s h
    refine k_cv (k_runV (As := [.int r41, .int 0]) C cf_X3_collect cv_X3_collect w_633 rc3 (c_X3_collect θ l N h45) ⟨rfl, rfl, Nat.le_of_ble_eq_true rfl, Nat.le_of_ble_eq_true rfl⟩ rfl hl.1 rfl (Nat.le_of_ble_eq_true rfl) dX3_point_45 ⟨Nat.zero_le _, Nat.zero_le _⟩ hw) hS (fun H locs hw hS => ?_)
    refine lv_aload_n C.1 C.2.1 dX3_point_48 rfl (lv_at hl 0 rfl) ?_
    obtain ⟨⟨r49, M49⟩, h49, h⟩ := bind_s h
    dsimp only at h
    refine k_ci (k_runV (As := []) C cf_X3_best cv_X3_best w_678 rc3 (c_X3_best θ l N h49) ⟨rfl, rfl, Nat.le_of_ble_eq_true rfl, Nat.le_of_ble_eq_true rfl⟩ rfl hl.1 rfl (Nat.le_of_ble_eq_true rfl) dX3_point_49 ⟨Nat.zero_le _, Nat.zero_le _⟩ hw) hS (fun H locs hw hS => ?_)
    refine lv_istore_n (lv' := [(3, .int r49), (0, .ref (tad θ 3)), (1, .int x1), (2, .int x2)]) C.1 C.2.1 dX3_point_52 rfl hl (by decide) rfl (fun ls hl => ?_)
    refine lv_aload_n C.1 C.2.1 dX3_point_53 rfl (lv_at hl 1 rfl) ?_
    refine gf_X3_above C hw w_540 dX3_point_54 ?_
    refine lv_iconst (v := 5) C.1 C.2.1 dX3_point_57 (by decide) ?_
    refine lv_iload_n C.1 C.2.1 dX3_point_58 rfl (lv_at hl 0 rfl) ?_
    refine lv_imul C.1 C.2.1 dX3_point_59 ?_
    refine lv_iload_n C.1 C.2.1 dX3_point_60 rfl (lv_at hl 2 rfl) ?_
    refine lv_iadd C.1 C.2.1 dX3_point_61 ?_
    obtain ⟨v62, h62, h⟩ := bind_s h
    refine k_lald C hw 2 h62 dX3_point_62 ?_
    refine lv_aload_n C.1 C.2.1 dX3_point_63 rfl (lv_at hl 1 rfl) ?_
    refine gf_X3_below C hw w_541 dX3_point_64 ?_
    refine lv_iload_n C.1 C.2.1 dX3_point_67 rfl (lv_at hl 0 rfl) ?_
    obtain ⟨v68, h68, h⟩ := bind_s h
    refine k_lald C hw 3 h68 dX3_point_68 ?_
    refine lv_iload_n C.1 C.2.1 dX3_point_69 rfl (lv_at hl 3 rfl) ?_
    obtain ⟨⟨r70, M70⟩, h70, h⟩ := bind_s h
    dsimp only at h
    refine k_cl (k_runS (As := [.long v62, .long v68, .int x2]) C cf_X3_told cs_X3_told w_689 (c_X3_told θ l N h70) ⟨rfl, rfl, Nat.le_of_ble_eq_true rfl, Nat.le_of_ble_eq_true rfl⟩ rfl hl.1 rfl (Nat.le_of_ble_eq_true rfl) dX3_point_70 ⟨Nat.zero_le _, Nat.zero_le _⟩ hw) hS (fun H locs hw hS => ?_)
    cases h
    exact k_retl C hw hS dX3_point_73
  · have h := it_f c34 h
    refine lv_lconst (v := 0) C.1 C.2.1 dX3_point_37 (by decide) ?_
    cases h
    exact k_retl C hw hS dX3_point_38
def b_X3_point_0 (N : Nat) (x1 : Int32) (x2 : Int32) (M : Mm) : Option (Int64 × Mm) :=
  (f_X3_status N M).bind fun (r2, M2) => (if r2 = 0 then b_X3_point_13 N x1 x2 0 M2 else b_X3_point_13 N x1 x2 1 M2)
set_option maxRecDepth 100000 in
set_option maxHeartbeats 4000000 in
theorem t_X3_point_0 {θ : Th} {p : Program} {l : Launch} {e : Env} {s : State} {m : MethodId} {args : Array Value} {below : List Frame} {meth : Method} {c : Code} (C : Cx θ p s m args meth c cX3_point 4 RX3 (some .long)) (N : Nat) : J_X3_point_0 θ p l e s m args below meth c (b_X3_point_0 N) := by
  intro x1 x2 M r M1 h H locs ls hl hw hS
  unfold b_X3_point_0 at h
  refine lv_aload_n C.1 C.2.1 dX3_point_0 rfl (lv_at hl 0 rfl) ?_
  refine lv_aload_n C.1 C.2.1 dX3_point_1 rfl (lv_at hl 0 rfl) ?_
  obtain ⟨⟨r2, M2⟩, h2, h⟩ := bind_s h
  dsimp only at h
  refine k_ci (k_runV (As := []) C cf_X3_status cv_X3_status w_621 rc3 (c_X3_status θ l N h2) ⟨rfl, rfl, Nat.le_of_ble_eq_true rfl, Nat.le_of_ble_eq_true rfl⟩ rfl hl.1 rfl (Nat.le_of_ble_eq_true rfl) dX3_point_2 ⟨Nat.zero_le _, Nat.zero_le _⟩ hw) hS (fun H locs hw hS => ?_)
  refine lv_if_eq (tgt := 12) C.1 C.2.1 dX3_point_5 (by decide) (fun c5 => ?_) (fun c5 => ?_)
  · have h := it_t c5 h
    refine lv_iconst (v := 0) C.1 C.2.1 dX3_point_12 (by decide) ?_
    exact t_X3_point_13 C N _ _ _ _ _ _ h _ _ ls (lv_sub hl [0, 1, 2] rfl) hw hS
  · have h := it_f c5 h
    refine lv_iconst (v := 1) C.1 C.2.1 dX3_point_8 (by decide) ?_
    refine lv_goto (tgt := 13) C.1 C.2.1 dX3_point_9 (by decide) ?_
    exact t_X3_point_13 C N _ _ _ _ _ _ h _ _ ls (lv_sub hl [0, 1, 2] rfl) hw hS
def f_X3_point (N : Nat) (x1 : Int32) (x2 : Int32) (M : Mm) : Option (Int64 × Mm) := b_X3_point_0 N x1 x2 M
set_option maxRecDepth 100000 in
theorem c_X3_point (θ : Th) (l : Launch) (N : Nat) {x1 : Int32} {x2 : Int32} {M : Mm} {r : Int64} {M1 : Mm} (h : f_X3_point N x1 x2 M = some (r, M1)) : Met l yX3_point (gws yX3_point cX3_point 4 (some .long)) rm_X3_point (va_Pc [.ref (tad θ 3), .int x1, .int x2] (wU θ M)) (qL θ r M1) 0 0 (tA θ) :=
  k_met (by decide +kernel) (Nat.le_of_ble_eq_true rfl) (fun p e s m args below meth c C ls hl hw => t_X3_point_0 C N _ _ _ _ _ h _ _ ls (lv_sub hl [0, 1, 2] rfl) hw va_S.rf)
abbrev rm_X3_endless : Room := { frames := 4, cells := 0, slots := 0, locals := 103 }
def J_X3_endless_13 (θ : Th) (p : Program) (l : Launch) (e : Env) (s : State) (m : MethodId) (args : Array Value) (below : List Frame) (meth : Method) (c : Code) (g : Int32 → Int32 → Int32 → Mm → Option (Int32 × Mm)) : Prop := ∀ (x1 : Int32) (x2 : Int32) (x3 : Int32) (M : Mm) (r : Int32) (M1 : Mm), g x1 x2 x3 M = some (r, M1) → ∀ (H : Heap) (locs : List Loc) (ls : Array Slot), lv_has ls 4 [(0, .ref (tad θ 3)), (1, .int x1), (2, .int x2), (3, .int x3)] → wd θ M H → va_S (tA θ) s.heap H locs → W p l e rm_X3_endless s m args below meth c H locs 0 0 (MQ below (qI θ r M1) args s 0 0 (tA θ)) (F0 m 13 ls [])
def J_X3_endless_0 (θ : Th) (p : Program) (l : Launch) (e : Env) (s : State) (m : MethodId) (args : Array Value) (below : List Frame) (meth : Method) (c : Code) (g : Int32 → Mm → Option (Int32 × Mm)) : Prop := ∀ (x1 : Int32) (M : Mm) (r : Int32) (M1 : Mm), g x1 M = some (r, M1) → ∀ (H : Heap) (locs : List Loc) (ls : Array Slot), lv_has ls 4 [(0, .ref (tad θ 3)), (1, .int x1)] → wd θ M H → va_S (tA θ) s.heap H locs → W p l e rm_X3_endless s m args below meth c H locs 0 0 (MQ below (qI θ r M1) args s 0 0 (tA θ)) (F0 m 0 ls [])
def F_X3_endless_13 (N : Nat) (k13 : Int32 → Int32 → Int32 → Mm → Option (Int32 × Mm)) (x1 : Int32) (x2 : Int32) (x3 : Int32) (M : Mm) : Option (Int32 × Mm) :=
  (if (M.1 9) ≤ x3 then (if x2 = 0 ∨ x2 = 1 then some (x2, M) else none) else (if x2 = 0 then (rL M 2 ((5 * x3) + x1)).bind fun v34 => (if (lg_cmp v34 0) ≤ 0 then k13 x1 0 (x3 + 1) M else k13 x1 1 (x3 + 1) M) else k13 x1 1 (x3 + 1) M))
abbrev b_X3_endless_13 (N : Nat) : Int32 → Int32 → Int32 → Mm → Option (Int32 × Mm) := lpT (fun _ _ _ _ => none) (F_X3_endless_13 N) N
set_option maxRecDepth 100000 in
set_option maxHeartbeats 4000000 in
theorem tF_X3_endless_13 {θ : Th} {p : Program} {l : Launch} {e : Env} {s : State} {m : MethodId} {args : Array Value} {below : List Frame} {meth : Method} {c : Code} (C : Cx θ p s m args meth c cX3_endless 4 RX3 (some .boolean)) (N : Nat) {k13 : Int32 → Int32 → Int32 → Mm → Option (Int32 × Mm)} (hk13 : J_X3_endless_13 θ p l e s m args below meth c k13) : J_X3_endless_13 θ p l e s m args below meth c (F_X3_endless_13 N k13) := by
  intro x1 x2 x3 M r M1 h H locs ls hl hw hS
  unfold F_X3_endless_13 at h
  refine lv_iload_n C.1 C.2.1 dX3_endless_13 rfl (lv_at hl 3 rfl) ?_
  refine lv_aload_n C.1 C.2.1 dX3_endless_14 rfl (lv_at hl 0 rfl) ?_
  refine gf_X3_found C hw w_539 dX3_endless_15 ?_
  refine lv_icmp_ge (tgt := 52) C.1 C.2.1 dX3_endless_18 (by decide) (fun c18 => ?_) (fun c18 => ?_)
  · have h := it_t c18 h
    refine lv_iload_n C.1 C.2.1 dX3_endless_52 rfl (lv_at hl 2 rfl) ?_
    obtain ⟨hz53, h⟩ := it_z h
    cases h
    exact k_retz C hw hS hz53 dX3_endless_53
  · have h := it_f c18 h
    refine lv_iload_n C.1 C.2.1 dX3_endless_21 rfl (lv_at hl 2 rfl) ?_
    refine lv_if_ne (tgt := 40) C.1 C.2.1 dX3_endless_22 (by decide) (fun c22 => ?_) (fun c22 => ?_)
    · have h := it_f c22 h
      refine lv_iconst (v := 1) C.1 C.2.1 dX3_endless_40 (by decide) ?_
      refine lv_goto (tgt := 45) C.1 C.2.1 dX3_endless_41 (by decide) ?_
      refine lv_istore_n (lv' := [(2, .int 1), (0, .ref (tad θ 3)), (1, .int x1), (3, .int x3)]) C.1 C.2.1 dX3_endless_45 rfl hl (by decide) rfl (fun ls hl => ?_)
      refine lv_iinc (v := (x3 + 1)) (lv' := [(3, .int (x3 + 1)), (2, .int 1), (0, .ref (tad θ 3)), (1, .int x1)]) C.1 C.2.1 dX3_endless_46 hl (k := 3) rfl rfl (by decide) rfl (fun ls hl => ?_)
      refine lv_goto (tgt := 13) C.1 C.2.1 dX3_endless_49 (by decide) ?_
      exact hk13 _ _ _ _ _ _ h _ _ ls (lv_sub hl [2, 3, 1, 0] rfl) hw hS
    · have h := it_t c22 h
      refine lv_aload_n C.1 C.2.1 dX3_endless_25 rfl (lv_at hl 0 rfl) ?_
      refine gf_X3_above C hw w_540 dX3_endless_26 ?_
      refine lv_iconst (v := 5) C.1 C.2.1 dX3_endless_29 (by decide) ?_
      refine lv_iload_n C.1 C.2.1 dX3_endless_30 rfl (lv_at hl 3 rfl) ?_
      refine lv_imul C.1 C.2.1 dX3_endless_31 ?_
      refine lv_iload_n C.1 C.2.1 dX3_endless_32 rfl (lv_at hl 1 rfl) ?_
      refine lv_iadd C.1 C.2.1 dX3_endless_33 ?_
      obtain ⟨v34, h34, h⟩ := bind_s h
      refine k_lald C hw 2 h34 dX3_endless_34 ?_
      refine lv_lconst (v := 0) C.1 C.2.1 dX3_endless_35 (by decide) ?_
      refine W.lcmp C.1 C.2.1 dX3_endless_36 ?_
      refine lv_if_le (tgt := 44) C.1 C.2.1 dX3_endless_37 (by decide) (fun c37 => ?_) (fun c37 => ?_)
      · have h := it_t c37 h
        refine lv_iconst (v := 0) C.1 C.2.1 dX3_endless_44 (by decide) ?_
        refine lv_istore_n (lv' := [(2, .int 0), (0, .ref (tad θ 3)), (1, .int x1), (3, .int x3)]) C.1 C.2.1 dX3_endless_45 rfl hl (by decide) rfl (fun ls hl => ?_)
        refine lv_iinc (v := (x3 + 1)) (lv' := [(3, .int (x3 + 1)), (2, .int 0), (0, .ref (tad θ 3)), (1, .int x1)]) C.1 C.2.1 dX3_endless_46 hl (k := 3) rfl rfl (by decide) rfl (fun ls hl => ?_)
        refine lv_goto (tgt := 13) C.1 C.2.1 dX3_endless_49 (by decide) ?_
        exact hk13 _ _ _ _ _ _ h _ _ ls (lv_sub hl [2, 3, 1, 0] rfl) hw hS
      · have h := it_f c37 h
        refine lv_iconst (v := 1) C.1 C.2.1 dX3_endless_40 (by decide) ?_
        refine lv_goto (tgt := 45) C.1 C.2.1 dX3_endless_41 (by decide) ?_
        refine lv_istore_n (lv' := [(2, .int 1), (0, .ref (tad θ 3)), (1, .int x1), (3, .int x3)]) C.1 C.2.1 dX3_endless_45 rfl hl (by decide) rfl (fun ls hl => ?_)
        refine lv_iinc (v := (x3 + 1)) (lv' := [(3, .int (x3 + 1)), (2, .int 1), (0, .ref (tad θ 3)), (1, .int x1)]) C.1 C.2.1 dX3_endless_46 hl (k := 3) rfl rfl (by decide) rfl (fun ls hl => ?_)
        refine lv_goto (tgt := 13) C.1 C.2.1 dX3_endless_49 (by decide) ?_
        exact hk13 _ _ _ _ _ _ h _ _ ls (lv_sub hl [2, 3, 1, 0] rfl) hw hS
theorem t_X3_endless_13 {θ : Th} {p : Program} {l : Launch} {e : Env} {s : State} {m : MethodId} {args : Array Value} {below : List Frame} {meth : Method} {c : Code} (C : Cx θ p s m args meth c cX3_endless 4 RX3 (some .boolean)) (N : Nat) : J_X3_endless_13 θ p l e s m args below meth c (b_X3_endless_13 N) := lpT_ind (J := J_X3_endless_13 θ p l e s m args below meth c) (fun _ _ _ _ _ _ h => by cases h) (fun k hk => tF_X3_endless_13 C N hk) N
def b_X3_endless_0 (N : Nat) (x1 : Int32) (M : Mm) : Option (Int32 × Mm) :=
  (f_X3_everyRow N M).bind fun (r2, M2) => (f_X3_collect N r2 1 M2).bind fun M6 => b_X3_endless_13 N x1 0 0 M6
set_option maxRecDepth 100000 in
set_option maxHeartbeats 4000000 in
theorem t_X3_endless_0 {θ : Th} {p : Program} {l : Launch} {e : Env} {s : State} {m : MethodId} {args : Array Value} {below : List Frame} {meth : Method} {c : Code} (C : Cx θ p s m args meth c cX3_endless 4 RX3 (some .boolean)) (N : Nat) : J_X3_endless_0 θ p l e s m args below meth c (b_X3_endless_0 N) := by
  intro x1 M r M1 h H locs ls hl hw hS
  unfold b_X3_endless_0 at h
  refine lv_aload_n C.1 C.2.1 dX3_endless_0 rfl (lv_at hl 0 rfl) ?_
  refine lv_aload_n C.1 C.2.1 dX3_endless_1 rfl (lv_at hl 0 rfl) ?_
  obtain ⟨⟨r2, M2⟩, h2, h⟩ := bind_s h
  dsimp only at h
  refine k_ci (k_runV (As := []) C cf_X3_everyRow cv_X3_everyRow w_625 rc3 (c_X3_everyRow θ l N h2) ⟨rfl, rfl, Nat.le_of_ble_eq_true rfl, Nat.le_of_ble_eq_true rfl⟩ rfl hl.1 rfl (Nat.le_of_ble_eq_true rfl) dX3_endless_2 ⟨Nat.zero_le _, Nat.zero_le _⟩ hw) hS (fun H locs hw hS => ?_)
  refine lv_iconst (v := 1) C.1 C.2.1 dX3_endless_5 (by decide) ?_
  obtain ⟨M6, h6, h⟩ := bind_s h
  refine k_cv (k_runV (As := [.int r2, .int 1]) C cf_X3_collect cv_X3_collect w_633 rc3 (c_X3_collect θ l N h6) ⟨rfl, rfl, Nat.le_of_ble_eq_true rfl, Nat.le_of_ble_eq_true rfl⟩ rfl hl.1 rfl (Nat.le_of_ble_eq_true rfl) dX3_endless_6 ⟨Nat.zero_le _, Nat.zero_le _⟩ hw) hS (fun H locs hw hS => ?_)
  refine lv_iconst (v := 0) C.1 C.2.1 dX3_endless_9 (by decide) ?_
  refine lv_istore_n (lv' := [(2, .int 0), (0, .ref (tad θ 3)), (1, .int x1)]) C.1 C.2.1 dX3_endless_10 rfl hl (by decide) rfl (fun ls hl => ?_)
  refine lv_iconst (v := 0) C.1 C.2.1 dX3_endless_11 (by decide) ?_
  refine lv_istore_n (lv' := [(3, .int 0), (2, .int 0), (0, .ref (tad θ 3)), (1, .int x1)]) C.1 C.2.1 dX3_endless_12 rfl hl (by decide) rfl (fun ls hl => ?_)
  exact t_X3_endless_13 C N _ _ _ _ _ _ h _ _ ls (lv_sub hl [2, 3, 1, 0] rfl) hw hS
def f_X3_endless (N : Nat) (x1 : Int32) (M : Mm) : Option (Int32 × Mm) := b_X3_endless_0 N x1 M
set_option maxRecDepth 100000 in
theorem c_X3_endless (θ : Th) (l : Launch) (N : Nat) {x1 : Int32} {M : Mm} {r : Int32} {M1 : Mm} (h : f_X3_endless N x1 M = some (r, M1)) : Met l yX3_endless (gws yX3_endless cX3_endless 4 (some .boolean)) rm_X3_endless (va_Pc [.ref (tad θ 3), .int x1] (wU θ M)) (qI θ r M1) 0 0 (tA θ) :=
  k_met (by decide +kernel) (Nat.le_of_ble_eq_true rfl) (fun p e s m args below meth c C ls hl hw => t_X3_endless_0 C N _ _ _ _ h _ _ ls (lv_sub hl [0, 1] rfl) hw va_S.rf)
abbrev rm_X3_range : Room := { frames := 5, cells := 0, slots := 0, locals := 126 }
def J_X3_range_88 (θ : Th) (p : Program) (l : Launch) (e : Env) (s : State) (m : MethodId) (args : Array Value) (below : List Frame) (meth : Method) (c : Code) (g : Int32 → Int32 → Int32 → Int32 → Int32 → Mm → Option (Int64 × Mm)) : Prop := ∀ (x1 : Int32) (x2 : Int32) (x3 : Int32) (x6 : Int32) (x7 : Int32) (M : Mm) (r : Int64) (M1 : Mm), g x1 x2 x3 x6 x7 M = some (r, M1) → ∀ (H : Heap) (locs : List Loc) (ls : Array Slot), lv_has ls 9 [(0, .ref (tad θ 3)), (1, .int x1), (2, .int x2), (3, .int x3), (6, .int x6), (7, .int x7)] → wd θ M H → va_S (tA θ) s.heap H locs → W p l e rm_X3_range s m args below meth c H locs 0 0 (MQ below (qL θ r M1) args s 0 0 (tA θ)) (F0 m 88 ls [])
def J_X3_range_65 (θ : Th) (p : Program) (l : Launch) (e : Env) (s : State) (m : MethodId) (args : Array Value) (below : List Frame) (meth : Method) (c : Code) (g : Int32 → Int32 → Int32 → Int32 → Int32 → Int32 → Int32 → Mm → Option (Int64 × Mm)) : Prop := ∀ (x1 : Int32) (x2 : Int32) (x3 : Int32) (s0 : Int32) (s1 : Int32) (s2 : Int32) (s3 : Int32) (M : Mm) (r : Int64) (M1 : Mm), g x1 x2 x3 s0 s1 s2 s3 M = some (r, M1) → ∀ (H : Heap) (locs : List Loc) (ls : Array Slot), lv_has ls 9 [(0, .ref (tad θ 3)), (1, .int x1), (2, .int x2), (3, .int x3)] → wd θ M H → va_S (tA θ) s.heap H locs → W p l e rm_X3_range s m args below meth c H locs 0 0 (MQ below (qL θ r M1) args s 0 0 (tA θ)) (F0 m 65 ls [.int s0, .int s1, .int s2, .int s3, .ref (tad θ 3)])
def J_X3_range_64 (θ : Th) (p : Program) (l : Launch) (e : Env) (s : State) (m : MethodId) (args : Array Value) (below : List Frame) (meth : Method) (c : Code) (g : Int32 → Int32 → Int32 → Int32 → Int32 → Int32 → Mm → Option (Int64 × Mm)) : Prop := ∀ (x1 : Int32) (x2 : Int32) (x3 : Int32) (s0 : Int32) (s1 : Int32) (s2 : Int32) (M : Mm) (r : Int64) (M1 : Mm), g x1 x2 x3 s0 s1 s2 M = some (r, M1) → ∀ (H : Heap) (locs : List Loc) (ls : Array Slot), lv_has ls 9 [(0, .ref (tad θ 3)), (1, .int x1), (2, .int x2), (3, .int x3)] → wd θ M H → va_S (tA θ) s.heap H locs → W p l e rm_X3_range s m args below meth c H locs 0 0 (MQ below (qL θ r M1) args s 0 0 (tA θ)) (F0 m 64 ls [.int s0, .int s1, .int s2, .ref (tad θ 3)])
def J_X3_range_54 (θ : Th) (p : Program) (l : Launch) (e : Env) (s : State) (m : MethodId) (args : Array Value) (below : List Frame) (meth : Method) (c : Code) (g : Int32 → Int32 → Int32 → Int32 → Int32 → Int32 → Int32 → Mm → Option (Int64 × Mm)) : Prop := ∀ (x1 : Int32) (x2 : Int32) (x3 : Int32) (s0 : Int32) (s2 : Int32) (s3 : Int32) (s4 : Int32) (M : Mm) (r : Int64) (M1 : Mm), g x1 x2 x3 s0 s2 s3 s4 M = some (r, M1) → ∀ (H : Heap) (locs : List Loc) (ls : Array Slot), lv_has ls 9 [(0, .ref (tad θ 3)), (1, .int x1), (2, .int x2), (3, .int x3)] → wd θ M H → va_S (tA θ) s.heap H locs → W p l e rm_X3_range s m args below meth c H locs 0 0 (MQ below (qL θ r M1) args s 0 0 (tA θ)) (F0 m 54 ls [.int s0, .ref (tad θ 3), .int s2, .int s3, .int s4, .ref (tad θ 3)])
def J_X3_range_0 (θ : Th) (p : Program) (l : Launch) (e : Env) (s : State) (m : MethodId) (args : Array Value) (below : List Frame) (meth : Method) (c : Code) (g : Int32 → Int32 → Int32 → Mm → Option (Int64 × Mm)) : Prop := ∀ (x1 : Int32) (x2 : Int32) (x3 : Int32) (M : Mm) (r : Int64) (M1 : Mm), g x1 x2 x3 M = some (r, M1) → ∀ (H : Heap) (locs : List Loc) (ls : Array Slot), lv_has ls 9 [(0, .ref (tad θ 3)), (1, .int x1), (2, .int x2), (3, .int x3)] → wd θ M H → va_S (tA θ) s.heap H locs → W p l e rm_X3_range s m args below meth c H locs 0 0 (MQ below (qL θ r M1) args s 0 0 (tA θ)) (F0 m 0 ls [])
def F_X3_range_88 (N : Nat) (k88 : Int32 → Int32 → Int32 → Int32 → Int32 → Mm → Option (Int64 × Mm)) (x1 : Int32) (x2 : Int32) (x3 : Int32) (x6 : Int32) (x7 : Int32) (M : Mm) : Option (Int64 × Mm) :=
  (if (M.1 9) ≤ x7 then (rL M 2 ((5 * x6) + x1)).bind fun v180 => (rL M 3 x6).bind fun v187 => (f_X3_told N v180 v187 x3 M).bind fun (r189, M189) => some (r189, M189) else (rL M 2 ((5 * x7) + x1)).bind fun v107 => (rL M 3 x7).bind fun v114 => (rL M 2 ((5 * x6) + x1)).bind fun v125 => (rL M 3 x6).bind fun v132 => (f_X3_compare N v107 v114 v125 v132 M).bind fun (r133, M133) => (if x2 = 0 then (if 0 ≤ r133 then k88 x1 x2 x3 x6 (x7 + 1) M133 else k88 x1 x2 x3 x7 (x7 + 1) M133) else (if r133 ≤ 0 then k88 x1 x2 x3 x6 (x7 + 1) M133 else k88 x1 x2 x3 x7 (x7 + 1) M133)))
abbrev b_X3_range_88 (N : Nat) : Int32 → Int32 → Int32 → Int32 → Int32 → Mm → Option (Int64 × Mm) := lpT (fun _ _ _ _ _ _ => none) (F_X3_range_88 N) N
set_option maxRecDepth 100000 in
set_option maxHeartbeats 4000000 in
theorem tF_X3_range_88 {θ : Th} {p : Program} {l : Launch} {e : Env} {s : State} {m : MethodId} {args : Array Value} {below : List Frame} {meth : Method} {c : Code} (C : Cx θ p s m args meth c cX3_range 9 RX3 (some .long)) (N : Nat) {k88 : Int32 → Int32 → Int32 → Int32 → Int32 → Mm → Option (Int64 × Mm)} (hk88 : J_X3_range_88 θ p l e s m args below meth c k88) : J_X3_range_88 θ p l e s m args below meth c (F_X3_range_88 N k88) := by
  intro x1 x2 x3 x6 x7 M r M1 h H locs ls hl hw hS
  unfold F_X3_range_88 at h
  refine lv_iload C.1 C.2.1 dX3_range_88 (lv_at hl 5 rfl) ?_
  refine lv_aload_n C.1 C.2.1 dX3_range_90 rfl (lv_at hl 0 rfl) ?_
  refine gf_X3_found C hw w_539 dX3_range_91 ?_
  refine lv_icmp_ge (tgt := 170) C.1 C.2.1 dX3_range_94 (by decide) (fun c94 => ?_) (fun c94 => ?_)
  · have h := it_t c94 h
    refine lv_aload_n C.1 C.2.1 dX3_range_170 rfl (lv_at hl 0 rfl) ?_
    refine gf_X3_above C hw w_540 dX3_range_171 ?_
    refine lv_iconst (v := 5) C.1 C.2.1 dX3_range_174 (by decide) ?_
    refine lv_iload C.1 C.2.1 dX3_range_175 (lv_at hl 4 rfl) ?_
    refine lv_imul C.1 C.2.1 dX3_range_177 ?_
    refine lv_iload_n C.1 C.2.1 dX3_range_178 rfl (lv_at hl 1 rfl) ?_
    refine lv_iadd C.1 C.2.1 dX3_range_179 ?_
    obtain ⟨v180, h180, h⟩ := bind_s h
    refine k_lald C hw 2 h180 dX3_range_180 ?_
    refine lv_aload_n C.1 C.2.1 dX3_range_181 rfl (lv_at hl 0 rfl) ?_
    refine gf_X3_below C hw w_541 dX3_range_182 ?_
    refine lv_iload C.1 C.2.1 dX3_range_185 (lv_at hl 4 rfl) ?_
    obtain ⟨v187, h187, h⟩ := bind_s h
    refine k_lald C hw 3 h187 dX3_range_187 ?_
    refine lv_iload_n C.1 C.2.1 dX3_range_188 rfl (lv_at hl 3 rfl) ?_
    obtain ⟨⟨r189, M189⟩, h189, h⟩ := bind_s h
    dsimp only at h
    refine k_cl (k_runS (As := [.long v180, .long v187, .int x3]) C cf_X3_told cs_X3_told w_689 (c_X3_told θ l N h189) ⟨rfl, rfl, Nat.le_of_ble_eq_true rfl, Nat.le_of_ble_eq_true rfl⟩ rfl hl.1 rfl (Nat.le_of_ble_eq_true rfl) dX3_range_189 ⟨Nat.zero_le _, Nat.zero_le _⟩ hw) hS (fun H locs hw hS => ?_)
    cases h
    exact k_retl C hw hS dX3_range_192
  · have h := it_f c94 h
    refine lv_aload_n C.1 C.2.1 dX3_range_97 rfl (lv_at hl 0 rfl) ?_
    refine gf_X3_above C hw w_540 dX3_range_98 ?_
    refine lv_iconst (v := 5) C.1 C.2.1 dX3_range_101 (by decide) ?_
    refine lv_iload C.1 C.2.1 dX3_range_102 (lv_at hl 5 rfl) ?_
    refine lv_imul C.1 C.2.1 dX3_range_104 ?_
    refine lv_iload_n C.1 C.2.1 dX3_range_105 rfl (lv_at hl 1 rfl) ?_
    refine lv_iadd C.1 C.2.1 dX3_range_106 ?_
    obtain ⟨v107, h107, h⟩ := bind_s h
    refine k_lald C hw 2 h107 dX3_range_107 ?_
    refine lv_aload_n C.1 C.2.1 dX3_range_108 rfl (lv_at hl 0 rfl) ?_
    refine gf_X3_below C hw w_541 dX3_range_109 ?_
    refine lv_iload C.1 C.2.1 dX3_range_112 (lv_at hl 5 rfl) ?_
    obtain ⟨v114, h114, h⟩ := bind_s h
    refine k_lald C hw 3 h114 dX3_range_114 ?_
    refine lv_aload_n C.1 C.2.1 dX3_range_115 rfl (lv_at hl 0 rfl) ?_
    refine gf_X3_above C hw w_540 dX3_range_116 ?_
    refine lv_iconst (v := 5) C.1 C.2.1 dX3_range_119 (by decide) ?_
    refine lv_iload C.1 C.2.1 dX3_range_120 (lv_at hl 4 rfl) ?_
    refine lv_imul C.1 C.2.1 dX3_range_122 ?_
    refine lv_iload_n C.1 C.2.1 dX3_range_123 rfl (lv_at hl 1 rfl) ?_
    refine lv_iadd C.1 C.2.1 dX3_range_124 ?_
    obtain ⟨v125, h125, h⟩ := bind_s h
    refine k_lald C hw 2 h125 dX3_range_125 ?_
    refine lv_aload_n C.1 C.2.1 dX3_range_126 rfl (lv_at hl 0 rfl) ?_
    refine gf_X3_below C hw w_541 dX3_range_127 ?_
    refine lv_iload C.1 C.2.1 dX3_range_130 (lv_at hl 4 rfl) ?_
    obtain ⟨v132, h132, h⟩ := bind_s h
    refine k_lald C hw 3 h132 dX3_range_132 ?_
    obtain ⟨⟨r133, M133⟩, h133, h⟩ := bind_s h
    dsimp only at h
    refine k_ci (k_runS (As := [.long v107, .long v114, .long v125, .long v132]) C cf_X3_compare cs_X3_compare w_686 (c_X3_compare θ l N h133) ⟨rfl, rfl, Nat.le_of_ble_eq_true rfl, Nat.le_of_ble_eq_true rfl⟩ rfl hl.1 rfl (Nat.le_of_ble_eq_true rfl) dX3_range_133 ⟨Nat.zero_le _, Nat.zero_le _⟩ hw) hS (fun H locs hw hS => ?_)
    refine lv_istore (lv' := [(8, .int r133), (0, .ref (tad θ 3)), (1, .int x1), (2, .int x2), (3, .int x3), (6, .int x6), (7, .int x7)]) C.1 C.2.1 dX3_range_136 hl (by decide) rfl (fun ls hl => ?_)
    refine lv_iload_n C.1 C.2.1 dX3_range_138 rfl (lv_at hl 3 rfl) ?_
    refine lv_if_eq (tgt := 150) C.1 C.2.1 dX3_range_139 (by decide) (fun c139 => ?_) (fun c139 => ?_)
    · have h := it_t c139 h
      refine lv_iload C.1 C.2.1 dX3_range_150 (lv_at hl 0 rfl) ?_
      refine lv_if_ge (tgt := 160) C.1 C.2.1 dX3_range_152 (by decide) (fun c152 => ?_) (fun c152 => ?_)
      · have h := it_t c152 h
        refine lv_iload C.1 C.2.1 dX3_range_160 (lv_at hl 5 rfl) ?_
        refine lv_istore (lv' := [(6, .int x6), (8, .int r133), (0, .ref (tad θ 3)), (1, .int x1), (2, .int x2), (3, .int x3), (7, .int x7)]) C.1 C.2.1 dX3_range_162 hl (by decide) rfl (fun ls hl => ?_)
        refine lv_iinc (v := (x7 + 1)) (lv' := [(7, .int (x7 + 1)), (6, .int x6), (8, .int r133), (0, .ref (tad θ 3)), (1, .int x1), (2, .int x2), (3, .int x3)]) C.1 C.2.1 dX3_range_164 hl (k := 6) rfl rfl (by decide) rfl (fun ls hl => ?_)
        refine lv_goto (tgt := 88) C.1 C.2.1 dX3_range_167 (by decide) ?_
        exact hk88 _ _ _ _ _ _ _ _ h _ _ ls (lv_sub hl [3, 4, 5, 6, 1, 0] rfl) hw hS
      · have h := it_f c152 h
        refine lv_iload C.1 C.2.1 dX3_range_155 (lv_at hl 6 rfl) ?_
        refine lv_goto (tgt := 162) C.1 C.2.1 dX3_range_157 (by decide) ?_
        refine lv_istore (lv' := [(6, .int x7), (8, .int r133), (0, .ref (tad θ 3)), (1, .int x1), (2, .int x2), (3, .int x3), (7, .int x7)]) C.1 C.2.1 dX3_range_162 hl (by decide) rfl (fun ls hl => ?_)
        refine lv_iinc (v := (x7 + 1)) (lv' := [(7, .int (x7 + 1)), (6, .int x7), (8, .int r133), (0, .ref (tad θ 3)), (1, .int x1), (2, .int x2), (3, .int x3)]) C.1 C.2.1 dX3_range_164 hl (k := 6) rfl rfl (by decide) rfl (fun ls hl => ?_)
        refine lv_goto (tgt := 88) C.1 C.2.1 dX3_range_167 (by decide) ?_
        exact hk88 _ _ _ _ _ _ _ _ h _ _ ls (lv_sub hl [3, 4, 5, 6, 1, 0] rfl) hw hS
    · have h := it_f c139 h
      refine lv_iload C.1 C.2.1 dX3_range_142 (lv_at hl 0 rfl) ?_
      refine lv_if_le (tgt := 160) C.1 C.2.1 dX3_range_144 (by decide) (fun c144 => ?_) (fun c144 => ?_)
      · have h := it_t c144 h
        refine lv_iload C.1 C.2.1 dX3_range_160 (lv_at hl 5 rfl) ?_
        refine lv_istore (lv' := [(6, .int x6), (8, .int r133), (0, .ref (tad θ 3)), (1, .int x1), (2, .int x2), (3, .int x3), (7, .int x7)]) C.1 C.2.1 dX3_range_162 hl (by decide) rfl (fun ls hl => ?_)
        refine lv_iinc (v := (x7 + 1)) (lv' := [(7, .int (x7 + 1)), (6, .int x6), (8, .int r133), (0, .ref (tad θ 3)), (1, .int x1), (2, .int x2), (3, .int x3)]) C.1 C.2.1 dX3_range_164 hl (k := 6) rfl rfl (by decide) rfl (fun ls hl => ?_)
        refine lv_goto (tgt := 88) C.1 C.2.1 dX3_range_167 (by decide) ?_
        exact hk88 _ _ _ _ _ _ _ _ h _ _ ls (lv_sub hl [3, 4, 5, 6, 1, 0] rfl) hw hS
      · have h := it_f c144 h
        refine lv_goto (tgt := 155) C.1 C.2.1 dX3_range_147 (by decide) ?_
        refine lv_iload C.1 C.2.1 dX3_range_155 (lv_at hl 6 rfl) ?_
        refine lv_goto (tgt := 162) C.1 C.2.1 dX3_range_157 (by decide) ?_
        refine lv_istore (lv' := [(6, .int x7), (8, .int r133), (0, .ref (tad θ 3)), (1, .int x1), (2, .int x2), (3, .int x3), (7, .int x7)]) C.1 C.2.1 dX3_range_162 hl (by decide) rfl (fun ls hl => ?_)
        refine lv_iinc (v := (x7 + 1)) (lv' := [(7, .int (x7 + 1)), (6, .int x7), (8, .int r133), (0, .ref (tad θ 3)), (1, .int x1), (2, .int x2), (3, .int x3)]) C.1 C.2.1 dX3_range_164 hl (k := 6) rfl rfl (by decide) rfl (fun ls hl => ?_)
        refine lv_goto (tgt := 88) C.1 C.2.1 dX3_range_167 (by decide) ?_
        exact hk88 _ _ _ _ _ _ _ _ h _ _ ls (lv_sub hl [3, 4, 5, 6, 1, 0] rfl) hw hS
theorem t_X3_range_88 {θ : Th} {p : Program} {l : Launch} {e : Env} {s : State} {m : MethodId} {args : Array Value} {below : List Frame} {meth : Method} {c : Code} (C : Cx θ p s m args meth c cX3_range 9 RX3 (some .long)) (N : Nat) : J_X3_range_88 θ p l e s m args below meth c (b_X3_range_88 N) := lpT_ind (J := J_X3_range_88 θ p l e s m args below meth c) (fun _ _ _ _ _ _ _ _ h => by cases h) (fun k hk => tF_X3_range_88 C N hk) N
def b_X3_range_65 (N : Nat) (x1 : Int32) (x2 : Int32) (x3 : Int32) (s0 : Int32) (s1 : Int32) (s2 : Int32) (s3 : Int32) (M : Mm) : Option (Int64 × Mm) :=
  (f_X3_refuses N s3 s2 s1 s0 M).bind fun (r65, M65) => (if r65 = 0 then (f_X3_everyRow N M65).bind fun (r75, M75) => (f_X3_collect N r75 0 M75).bind fun M79 => b_X3_range_88 N x1 x2 x3 0 1 M79 else some (0, M65))
set_option maxRecDepth 100000 in
set_option maxHeartbeats 4000000 in
theorem t_X3_range_65 {θ : Th} {p : Program} {l : Launch} {e : Env} {s : State} {m : MethodId} {args : Array Value} {below : List Frame} {meth : Method} {c : Code} (C : Cx θ p s m args meth c cX3_range 9 RX3 (some .long)) (N : Nat) : J_X3_range_65 θ p l e s m args below meth c (b_X3_range_65 N) := by
  intro x1 x2 x3 s0 s1 s2 s3 M r M1 h H locs ls hl hw hS
  unfold b_X3_range_65 at h
  obtain ⟨⟨r65, M65⟩, h65, h⟩ := bind_s h
  dsimp only at h
  refine k_ci (k_runV (As := [.int s3, .int s2, .int s1, .int s0]) C cf_X3_refuses cv_X3_refuses w_597 rc3 (c_X3_refuses θ l N h65) ⟨rfl, rfl, Nat.le_of_ble_eq_true rfl, Nat.le_of_ble_eq_true rfl⟩ rfl hl.1 rfl (Nat.le_of_ble_eq_true rfl) dX3_range_65 ⟨Nat.zero_le _, Nat.zero_le _⟩ hw) hS (fun H locs hw hS => ?_)
  refine lv_if_eq (tgt := 73) C.1 C.2.1 dX3_range_68 (by decide) (fun c68 => ?_) (fun c68 => ?_)
  · have h := it_t c68 h
    refine lv_aload_n C.1 C.2.1 dX3_range_73 rfl (lv_at hl 0 rfl) ?_
    refine lv_aload_n C.1 C.2.1 dX3_range_74 rfl (lv_at hl 0 rfl) ?_
    obtain ⟨⟨r75, M75⟩, h75, h⟩ := bind_s h
    dsimp only at h
    refine k_ci (k_runV (As := []) C cf_X3_everyRow cv_X3_everyRow w_625 rc3 (c_X3_everyRow θ l N h75) ⟨rfl, rfl, Nat.le_of_ble_eq_true rfl, Nat.le_of_ble_eq_true rfl⟩ rfl hl.1 rfl (Nat.le_of_ble_eq_true rfl) dX3_range_75 ⟨Nat.zero_le _, Nat.zero_le _⟩ hw) hS (fun H locs hw hS => ?_)
    refine lv_iconst (v := 0) C.1 C.2.1 dX3_range_78 (by decide) ?_
    obtain ⟨M79, h79, h⟩ := bind_s h
    refine k_cv (k_runV (As := [.int r75, .int 0]) C cf_X3_collect cv_X3_collect w_633 rc3 (c_X3_collect θ l N h79) ⟨rfl, rfl, Nat.le_of_ble_eq_true rfl, Nat.le_of_ble_eq_true rfl⟩ rfl hl.1 rfl (Nat.le_of_ble_eq_true rfl) dX3_range_79 ⟨Nat.zero_le _, Nat.zero_le _⟩ hw) hS (fun H locs hw hS => ?_)
    refine lv_iconst (v := 0) C.1 C.2.1 dX3_range_82 (by decide) ?_
    refine lv_istore (lv' := [(6, .int 0), (0, .ref (tad θ 3)), (1, .int x1), (2, .int x2), (3, .int x3)]) C.1 C.2.1 dX3_range_83 hl (by decide) rfl (fun ls hl => ?_)
    refine lv_iconst (v := 1) C.1 C.2.1 dX3_range_85 (by decide) ?_
    refine lv_istore (lv' := [(7, .int 1), (6, .int 0), (0, .ref (tad θ 3)), (1, .int x1), (2, .int x2), (3, .int x3)]) C.1 C.2.1 dX3_range_86 hl (by decide) rfl (fun ls hl => ?_)
    exact t_X3_range_88 C N _ _ _ _ _ _ _ _ h _ _ ls (lv_sub hl [2, 3, 4, 5, 1, 0] rfl) hw hS
  · have h := it_f c68 h
    refine lv_lconst (v := 0) C.1 C.2.1 dX3_range_71 (by decide) ?_
    cases h
    exact k_retl C hw hS dX3_range_72
def b_X3_range_64 (N : Nat) (x1 : Int32) (x2 : Int32) (x3 : Int32) (s0 : Int32) (s1 : Int32) (s2 : Int32) (M : Mm) : Option (Int64 × Mm) :=
  b_X3_range_65 N x1 x2 x3 0 s0 s1 s2 M
set_option maxRecDepth 100000 in
set_option maxHeartbeats 4000000 in
theorem t_X3_range_64 {θ : Th} {p : Program} {l : Launch} {e : Env} {s : State} {m : MethodId} {args : Array Value} {below : List Frame} {meth : Method} {c : Code} (C : Cx θ p s m args meth c cX3_range 9 RX3 (some .long)) (N : Nat) : J_X3_range_64 θ p l e s m args below meth c (b_X3_range_64 N) := by
  intro x1 x2 x3 s0 s1 s2 M r M1 h H locs ls hl hw hS
  unfold b_X3_range_64 at h
  refine lv_iconst (v := 0) C.1 C.2.1 dX3_range_64 (by decide) ?_
  exact t_X3_range_65 C N _ _ _ _ _ _ _ _ _ _ h _ _ ls (lv_sub hl [0, 1, 2, 3] rfl) hw hS
def b_X3_range_54 (N : Nat) (x1 : Int32) (x2 : Int32) (x3 : Int32) (s0 : Int32) (s2 : Int32) (s3 : Int32) (s4 : Int32) (M : Mm) : Option (Int64 × Mm) :=
  (f_X3_endless N s0 M).bind fun (r54, M54) => (if r54 = 0 then b_X3_range_64 N x1 x2 x3 s2 s3 s4 M54 else b_X3_range_65 N x1 x2 x3 1 s2 s3 s4 M54)
set_option maxRecDepth 100000 in
set_option maxHeartbeats 4000000 in
theorem t_X3_range_54 {θ : Th} {p : Program} {l : Launch} {e : Env} {s : State} {m : MethodId} {args : Array Value} {below : List Frame} {meth : Method} {c : Code} (C : Cx θ p s m args meth c cX3_range 9 RX3 (some .long)) (N : Nat) : J_X3_range_54 θ p l e s m args below meth c (b_X3_range_54 N) := by
  intro x1 x2 x3 s0 s2 s3 s4 M r M1 h H locs ls hl hw hS
  unfold b_X3_range_54 at h
  obtain ⟨⟨r54, M54⟩, h54, h⟩ := bind_s h
  dsimp only at h
  refine k_ci (k_runV (As := [.int s0]) C cf_X3_endless cv_X3_endless w_703 rc3 (c_X3_endless θ l N h54) ⟨rfl, rfl, Nat.le_of_ble_eq_true rfl, Nat.le_of_ble_eq_true rfl⟩ rfl hl.1 rfl (Nat.le_of_ble_eq_true rfl) dX3_range_54 ⟨Nat.zero_le _, Nat.zero_le _⟩ hw) hS (fun H locs hw hS => ?_)
  refine lv_if_eq (tgt := 64) C.1 C.2.1 dX3_range_57 (by decide) (fun c57 => ?_) (fun c57 => ?_)
  · have h := it_t c57 h
    exact t_X3_range_64 C N _ _ _ _ _ _ _ _ _ h _ _ ls (lv_sub hl [0, 1, 2, 3] rfl) hw hS
  · have h := it_f c57 h
    refine lv_iconst (v := 1) C.1 C.2.1 dX3_range_60 (by decide) ?_
    refine lv_goto (tgt := 65) C.1 C.2.1 dX3_range_61 (by decide) ?_
    exact t_X3_range_65 C N _ _ _ _ _ _ _ _ _ _ h _ _ ls (lv_sub hl [0, 1, 2, 3] rfl) hw hS
def b_X3_range_0 (N : Nat) (x1 : Int32) (x2 : Int32) (x3 : Int32) (M : Mm) : Option (Int64 × Mm) :=
  (f_X3_everyRow N M).bind fun (r2, M2) => (f_X3_infeasible N r2 M2).bind fun (r5, M5) => (f_X3_outside N x1 0 ((M5.1 4) - 1) M5).bind fun (r18, M18) => (f_X3_outside N x3 0 1 M18).bind fun (r31, M31) => (if r18 = 0 then (if x2 = 0 then b_X3_range_64 N x1 x2 x3 r31 r18 r5 M31 else (if r18 = 0 then b_X3_range_54 N x1 x2 x3 x1 r31 r18 r5 M31 else b_X3_range_54 N x1 x2 x3 0 r31 r18 r5 M31)) else b_X3_range_64 N x1 x2 x3 r31 r18 r5 M31)
set_option maxRecDepth 100000 in
set_option maxHeartbeats 4000000 in
theorem t_X3_range_0 {θ : Th} {p : Program} {l : Launch} {e : Env} {s : State} {m : MethodId} {args : Array Value} {below : List Frame} {meth : Method} {c : Code} (C : Cx θ p s m args meth c cX3_range 9 RX3 (some .long)) (N : Nat) : J_X3_range_0 θ p l e s m args below meth c (b_X3_range_0 N) := by
  intro x1 x2 x3 M r M1 h H locs ls hl hw hS
  unfold b_X3_range_0 at h
  refine lv_aload_n C.1 C.2.1 dX3_range_0 rfl (lv_at hl 0 rfl) ?_
  refine lv_aload_n C.1 C.2.1 dX3_range_1 rfl (lv_at hl 0 rfl) ?_
  obtain ⟨⟨r2, M2⟩, h2, h⟩ := bind_s h
  dsimp only at h
  refine k_ci (k_runV (As := []) C cf_X3_everyRow cv_X3_everyRow w_625 rc3 (c_X3_everyRow θ l N h2) ⟨rfl, rfl, Nat.le_of_ble_eq_true rfl, Nat.le_of_ble_eq_true rfl⟩ rfl hl.1 rfl (Nat.le_of_ble_eq_true rfl) dX3_range_2 ⟨Nat.zero_le _, Nat.zero_le _⟩ hw) hS (fun H locs hw hS => ?_)
  obtain ⟨⟨r5, M5⟩, h5, h⟩ := bind_s h
  dsimp only at h
  refine k_ci (k_runV (As := [.int r2]) C cf_X3_infeasible cv_X3_infeasible w_629 rc3 (c_X3_infeasible θ l N h5) ⟨rfl, rfl, Nat.le_of_ble_eq_true rfl, Nat.le_of_ble_eq_true rfl⟩ rfl hl.1 rfl (Nat.le_of_ble_eq_true rfl) dX3_range_5 ⟨Nat.zero_le _, Nat.zero_le _⟩ hw) hS (fun H locs hw hS => ?_)
  refine lv_istore (lv' := [(4, .int r5), (0, .ref (tad θ 3)), (1, .int x1), (2, .int x2), (3, .int x3)]) C.1 C.2.1 dX3_range_8 hl (by decide) rfl (fun ls hl => ?_)
  refine lv_iload_n C.1 C.2.1 dX3_range_10 rfl (lv_at hl 2 rfl) ?_
  refine lv_iconst (v := 0) C.1 C.2.1 dX3_range_11 (by decide) ?_
  refine lv_aload_n C.1 C.2.1 dX3_range_12 rfl (lv_at hl 1 rfl) ?_
  refine gf_X3_n C hw w_525 dX3_range_13 ?_
  refine lv_iconst (v := 1) C.1 C.2.1 dX3_range_16 (by decide) ?_
  refine lv_isub C.1 C.2.1 dX3_range_17 ?_
  obtain ⟨⟨r18, M18⟩, h18, h⟩ := bind_s h
  dsimp only at h
  refine k_ci (k_runS (As := [.int x1, .int 0, .int ((M5.1 4) - 1)]) C cf_X3_outside cs_X3_outside w_594 (c_X3_outside θ l N h18) ⟨rfl, rfl, Nat.le_of_ble_eq_true rfl, Nat.le_of_ble_eq_true rfl⟩ rfl hl.1 rfl (Nat.le_of_ble_eq_true rfl) dX3_range_18 ⟨Nat.zero_le _, Nat.zero_le _⟩ hw) hS (fun H locs hw hS => ?_)
  refine lv_istore (lv' := [(5, .int r18), (4, .int r5), (0, .ref (tad θ 3)), (1, .int x1), (2, .int x2), (3, .int x3)]) C.1 C.2.1 dX3_range_21 hl (by decide) rfl (fun ls hl => ?_)
  refine lv_aload_n C.1 C.2.1 dX3_range_23 rfl (lv_at hl 2 rfl) ?_
  refine lv_iload C.1 C.2.1 dX3_range_24 (lv_at hl 1 rfl) ?_
  refine lv_iload C.1 C.2.1 dX3_range_26 (lv_at hl 0 rfl) ?_
  refine lv_iload_n C.1 C.2.1 dX3_range_28 rfl (lv_at hl 5 rfl) ?_
  refine lv_iconst (v := 0) C.1 C.2.1 dX3_range_29 (by decide) ?_
  refine lv_iconst (v := 1) C.1 C.2.1 dX3_range_30 (by decide) ?_
  obtain ⟨⟨r31, M31⟩, h31, h⟩ := bind_s h
  dsimp only at h
  refine k_ci (k_runS (As := [.int x3, .int 0, .int 1]) C cf_X3_outside cs_X3_outside w_594 (c_X3_outside θ l N h31) ⟨rfl, rfl, Nat.le_of_ble_eq_true rfl, Nat.le_of_ble_eq_true rfl⟩ rfl hl.1 rfl (Nat.le_of_ble_eq_true rfl) dX3_range_31 ⟨Nat.zero_le _, Nat.zero_le _⟩ hw) hS (fun H locs hw hS => ?_)
  refine lv_iload C.1 C.2.1 dX3_range_34 (lv_at hl 0 rfl) ?_
  refine lv_if_ne (tgt := 64) C.1 C.2.1 dX3_range_36 (by decide) (fun c36 => ?_) (fun c36 => ?_)
  · have h := it_f c36 h
    exact t_X3_range_64 C N _ _ _ _ _ _ _ _ _ h _ _ ls (lv_sub hl [2, 3, 4, 5] rfl) hw hS
  · have h := it_t c36 h
    refine lv_iload_n C.1 C.2.1 dX3_range_39 rfl (lv_at hl 4 rfl) ?_
    refine lv_if_eq (tgt := 64) C.1 C.2.1 dX3_range_40 (by decide) (fun c40 => ?_) (fun c40 => ?_)
    · have h := it_t c40 h
      exact t_X3_range_64 C N _ _ _ _ _ _ _ _ _ h _ _ ls (lv_sub hl [2, 3, 4, 5] rfl) hw hS
    · have h := it_f c40 h
      refine lv_aload_n C.1 C.2.1 dX3_range_43 rfl (lv_at hl 2 rfl) ?_
      refine lv_iload C.1 C.2.1 dX3_range_44 (lv_at hl 0 rfl) ?_
      refine lv_if_eq (tgt := 53) C.1 C.2.1 dX3_range_46 (by decide) (fun c46 => ?_) (fun c46 => ?_)
      · have h := it_t c46 h
        refine lv_iload_n C.1 C.2.1 dX3_range_53 rfl (lv_at hl 3 rfl) ?_
        exact t_X3_range_54 C N _ _ _ _ _ _ _ _ _ _ h _ _ ls (lv_sub hl [2, 3, 4, 5] rfl) hw hS
      · have h := it_f c46 h
        refine lv_iconst (v := 0) C.1 C.2.1 dX3_range_49 (by decide) ?_
        refine lv_goto (tgt := 54) C.1 C.2.1 dX3_range_50 (by decide) ?_
        exact t_X3_range_54 C N _ _ _ _ _ _ _ _ _ _ h _ _ ls (lv_sub hl [2, 3, 4, 5] rfl) hw hS
def f_X3_range (N : Nat) (x1 : Int32) (x2 : Int32) (x3 : Int32) (M : Mm) : Option (Int64 × Mm) := b_X3_range_0 N x1 x2 x3 M
set_option maxRecDepth 100000 in
theorem c_X3_range (θ : Th) (l : Launch) (N : Nat) {x1 : Int32} {x2 : Int32} {x3 : Int32} {M : Mm} {r : Int64} {M1 : Mm} (h : f_X3_range N x1 x2 x3 M = some (r, M1)) : Met l yX3_range (gws yX3_range cX3_range 9 (some .long)) rm_X3_range (va_Pc [.ref (tad θ 3), .int x1, .int x2, .int x3] (wU θ M)) (qL θ r M1) 0 0 (tA θ) :=
  k_met (by decide +kernel) (Nat.le_of_ble_eq_true rfl) (fun p e s m args below meth c C ls hl hw => t_X3_range_0 C N _ _ _ _ _ _ h _ _ ls (lv_sub hl [0, 1, 2, 3] rfl) hw va_S.rf)
abbrev rm_X3_excess : Room := { frames := 0, cells := 0, slots := 0, locals := 0 }
def J_X3_excess_15 (θ : Th) (p : Program) (l : Launch) (e : Env) (s : State) (m : MethodId) (args : Array Value) (below : List Frame) (meth : Method) (c : Code) (g : Int32 → Int32 → Int64 → Int32 → Mm → Option (Int64 × Mm)) : Prop := ∀ (x1 : Int32) (x2 : Int32) (x4 : Int64) (x6 : Int32) (M : Mm) (r : Int64) (M1 : Mm), g x1 x2 x4 x6 M = some (r, M1) → ∀ (H : Heap) (locs : List Loc) (ls : Array Slot), lv_has ls 7 [(0, .ref (tad θ 3)), (1, .int x1), (2, .int x2), (4, .long x4), (6, .int x6)] → wd θ M H → va_S (tA θ) s.heap H locs → W p l e rm_X3_excess s m args below meth c H locs 0 0 (MQ below (qL θ r M1) args s 0 0 (tA θ)) (F0 m 15 ls [])
def J_X3_excess_0 (θ : Th) (p : Program) (l : Launch) (e : Env) (s : State) (m : MethodId) (args : Array Value) (below : List Frame) (meth : Method) (c : Code) (g : Int32 → Int32 → Int32 → Mm → Option (Int64 × Mm)) : Prop := ∀ (x1 : Int32) (x2 : Int32) (x3 : Int32) (M : Mm) (r : Int64) (M1 : Mm), g x1 x2 x3 M = some (r, M1) → ∀ (H : Heap) (locs : List Loc) (ls : Array Slot), lv_has ls 7 [(0, .ref (tad θ 3)), (1, .int x1), (2, .int x2), (3, .int x3)] → wd θ M H → va_S (tA θ) s.heap H locs → W p l e rm_X3_excess s m args below meth c H locs 0 0 (MQ below (qL θ r M1) args s 0 0 (tA θ)) (F0 m 0 ls [])
def F_X3_excess_15 (N : Nat) (k15 : Int32 → Int32 → Int64 → Int32 → Mm → Option (Int64 × Mm)) (x1 : Int32) (x2 : Int32) (x4 : Int64) (x6 : Int32) (M : Mm) : Option (Int64 × Mm) :=
  (if (M.1 4) ≤ x6 then some (x4, M) else (rA M 6 ((4 * x1) + x6)).bind fun v36 => (rL M 2 ((5 * x2) + x6)).bind fun v48 => k15 x1 x2 (x4 + ((Int32.toInt64 v36) * v48)) (x6 + 1) M)
abbrev b_X3_excess_15 (N : Nat) : Int32 → Int32 → Int64 → Int32 → Mm → Option (Int64 × Mm) := lpT (fun _ _ _ _ _ => none) (F_X3_excess_15 N) N
set_option maxRecDepth 100000 in
set_option maxHeartbeats 4000000 in
theorem tF_X3_excess_15 {θ : Th} {p : Program} {l : Launch} {e : Env} {s : State} {m : MethodId} {args : Array Value} {below : List Frame} {meth : Method} {c : Code} (C : Cx θ p s m args meth c cX3_excess 7 RX3 (some .long)) (N : Nat) {k15 : Int32 → Int32 → Int64 → Int32 → Mm → Option (Int64 × Mm)} (hk15 : J_X3_excess_15 θ p l e s m args below meth c k15) : J_X3_excess_15 θ p l e s m args below meth c (F_X3_excess_15 N k15) := by
  intro x1 x2 x4 x6 M r M1 h H locs ls hl hw hS
  unfold F_X3_excess_15 at h
  refine lv_iload C.1 C.2.1 dX3_excess_15 (lv_at hl 4 rfl) ?_
  refine lv_aload_n C.1 C.2.1 dX3_excess_17 rfl (lv_at hl 0 rfl) ?_
  refine gf_X3_n C hw w_525 dX3_excess_18 ?_
  refine lv_icmp_ge (tgt := 59) C.1 C.2.1 dX3_excess_21 (by decide) (fun c21 => ?_) (fun c21 => ?_)
  · have h := it_t c21 h
    refine lv_lload C.1 C.2.1 dX3_excess_59 (lv_at hl 3 rfl) ?_
    cases h
    exact k_retl C hw hS dX3_excess_61
  · have h := it_f c21 h
    refine lv_lload C.1 C.2.1 dX3_excess_24 (lv_at hl 3 rfl) ?_
    refine lv_aload_n C.1 C.2.1 dX3_excess_26 rfl (lv_at hl 0 rfl) ?_
    refine gf_X3_a C hw w_527 dX3_excess_27 ?_
    refine lv_iconst (v := 4) C.1 C.2.1 dX3_excess_30 (by decide) ?_
    refine lv_iload_n C.1 C.2.1 dX3_excess_31 rfl (lv_at hl 1 rfl) ?_
    refine lv_imul C.1 C.2.1 dX3_excess_32 ?_
    refine lv_iload C.1 C.2.1 dX3_excess_33 (lv_at hl 4 rfl) ?_
    refine lv_iadd C.1 C.2.1 dX3_excess_35 ?_
    obtain ⟨v36, h36, h⟩ := bind_s h
    refine k_iald C hw 6 (by decide) h36 dX3_excess_36 ?_
    refine lv_i2l (v := (Int32.toInt64 v36)) C.1 C.2.1 dX3_excess_37 rfl ?_
    refine lv_aload_n C.1 C.2.1 dX3_excess_38 rfl (lv_at hl 0 rfl) ?_
    refine gf_X3_above C hw w_540 dX3_excess_39 ?_
    refine lv_iconst (v := 5) C.1 C.2.1 dX3_excess_42 (by decide) ?_
    refine lv_iload_n C.1 C.2.1 dX3_excess_43 rfl (lv_at hl 2 rfl) ?_
    refine lv_imul C.1 C.2.1 dX3_excess_44 ?_
    refine lv_iload C.1 C.2.1 dX3_excess_45 (lv_at hl 4 rfl) ?_
    refine lv_iadd C.1 C.2.1 dX3_excess_47 ?_
    obtain ⟨v48, h48, h⟩ := bind_s h
    refine k_lald C hw 2 h48 dX3_excess_48 ?_
    refine lv_lmul C.1 C.2.1 dX3_excess_49 ?_
    refine lv_ladd C.1 C.2.1 dX3_excess_50 ?_
    refine lv_lstore (lv' := [(4, .long (x4 + ((Int32.toInt64 v36) * v48))), (0, .ref (tad θ 3)), (1, .int x1), (2, .int x2), (6, .int x6)]) C.1 C.2.1 dX3_excess_51 hl (by decide) rfl (fun ls hl => ?_)
    refine lv_iinc (v := (x6 + 1)) (lv' := [(6, .int (x6 + 1)), (4, .long (x4 + ((Int32.toInt64 v36) * v48))), (0, .ref (tad θ 3)), (1, .int x1), (2, .int x2)]) C.1 C.2.1 dX3_excess_53 hl (k := 4) rfl rfl (by decide) rfl (fun ls hl => ?_)
    refine lv_goto (tgt := 15) C.1 C.2.1 dX3_excess_56 (by decide) ?_
    exact hk15 _ _ _ _ _ _ _ h _ _ ls (lv_sub hl [2, 3, 4, 1, 0] rfl) hw hS
theorem t_X3_excess_15 {θ : Th} {p : Program} {l : Launch} {e : Env} {s : State} {m : MethodId} {args : Array Value} {below : List Frame} {meth : Method} {c : Code} (C : Cx θ p s m args meth c cX3_excess 7 RX3 (some .long)) (N : Nat) : J_X3_excess_15 θ p l e s m args below meth c (b_X3_excess_15 N) := lpT_ind (J := J_X3_excess_15 θ p l e s m args below meth c) (fun _ _ _ _ _ _ _ h => by cases h) (fun k hk => tF_X3_excess_15 C N hk) N
def b_X3_excess_0 (N : Nat) (x1 : Int32) (x2 : Int32) (x3 : Int32) (M : Mm) : Option (Int64 × Mm) :=
  (rL M 3 x2).bind fun v8 => b_X3_excess_15 N x1 x2 ((Int32.toInt64 (-x3)) * v8) 0 M
set_option maxRecDepth 100000 in
set_option maxHeartbeats 4000000 in
theorem t_X3_excess_0 {θ : Th} {p : Program} {l : Launch} {e : Env} {s : State} {m : MethodId} {args : Array Value} {below : List Frame} {meth : Method} {c : Code} (C : Cx θ p s m args meth c cX3_excess 7 RX3 (some .long)) (N : Nat) : J_X3_excess_0 θ p l e s m args below meth c (b_X3_excess_0 N) := by
  intro x1 x2 x3 M r M1 h H locs ls hl hw hS
  unfold b_X3_excess_0 at h
  refine lv_iload_n C.1 C.2.1 dX3_excess_0 rfl (lv_at hl 3 rfl) ?_
  refine lv_ineg C.1 C.2.1 dX3_excess_1 ?_
  refine lv_i2l (v := (Int32.toInt64 (-x3))) C.1 C.2.1 dX3_excess_2 rfl ?_
  refine lv_aload_n C.1 C.2.1 dX3_excess_3 rfl (lv_at hl 0 rfl) ?_
  refine gf_X3_below C hw w_541 dX3_excess_4 ?_
  refine lv_iload_n C.1 C.2.1 dX3_excess_7 rfl (lv_at hl 2 rfl) ?_
  obtain ⟨v8, h8, h⟩ := bind_s h
  refine k_lald C hw 3 h8 dX3_excess_8 ?_
  refine lv_lmul C.1 C.2.1 dX3_excess_9 ?_
  refine lv_lstore (lv' := [(4, .long ((Int32.toInt64 (-x3)) * v8)), (0, .ref (tad θ 3)), (1, .int x1), (2, .int x2), (3, .int x3)]) C.1 C.2.1 dX3_excess_10 hl (by decide) rfl (fun ls hl => ?_)
  refine lv_iconst (v := 0) C.1 C.2.1 dX3_excess_12 (by decide) ?_
  refine lv_istore (lv' := [(6, .int 0), (4, .long ((Int32.toInt64 (-x3)) * v8)), (0, .ref (tad θ 3)), (1, .int x1), (2, .int x2), (3, .int x3)]) C.1 C.2.1 dX3_excess_13 hl (by decide) rfl (fun ls hl => ?_)
  exact t_X3_excess_15 C N _ _ _ _ _ _ _ h _ _ ls (lv_sub hl [2, 3, 4, 1, 0] rfl) hw hS
def f_X3_excess (N : Nat) (x1 : Int32) (x2 : Int32) (x3 : Int32) (M : Mm) : Option (Int64 × Mm) := b_X3_excess_0 N x1 x2 x3 M
set_option maxRecDepth 100000 in
theorem c_X3_excess (θ : Th) (l : Launch) (N : Nat) {x1 : Int32} {x2 : Int32} {x3 : Int32} {M : Mm} {r : Int64} {M1 : Mm} (h : f_X3_excess N x1 x2 x3 M = some (r, M1)) : Met l yX3_excess (gws yX3_excess cX3_excess 7 (some .long)) rm_X3_excess (va_Pc [.ref (tad θ 3), .int x1, .int x2, .int x3] (wU θ M)) (qL θ r M1) 0 0 (tA θ) :=
  k_met (by decide +kernel) (Nat.le_of_ble_eq_true rfl) (fun p e s m args below meth c C ls hl hw => t_X3_excess_0 C N _ _ _ _ _ _ h _ _ ls (lv_sub hl [0, 1, 2, 3] rfl) hw va_S.rf)
abbrev rm_X3_tight : Room := { frames := 6, cells := 0, slots := 0, locals := 145 }
def J_X3_tight_99 (θ : Th) (p : Program) (l : Launch) (e : Env) (s : State) (m : MethodId) (args : Array Value) (below : List Frame) (meth : Method) (c : Code) (g : Int32 → Int32 → Int32 → Int32 → Int32 → Mm → Option (Int32 × Mm)) : Prop := ∀ (x1 : Int32) (x2 : Int32) (x3 : Int32) (x4 : Int32) (s0 : Int32) (M : Mm) (r : Int32) (M1 : Mm), g x1 x2 x3 x4 s0 M = some (r, M1) → ∀ (H : Heap) (locs : List Loc) (ls : Array Slot), lv_has ls 6 [(0, .ref (tad θ 3)), (1, .int x1), (2, .int x2), (3, .int x3), (4, .int x4)] → wd θ M H → va_S (tA θ) s.heap H locs → W p l e rm_X3_tight s m args below meth c H locs 0 0 (MQ below (qI θ r M1) args s 0 0 (tA θ)) (F0 m 99 ls [.int s0])
def J_X3_tight_152 (θ : Th) (p : Program) (l : Launch) (e : Env) (s : State) (m : MethodId) (args : Array Value) (below : List Frame) (meth : Method) (c : Code) (g : Int32 → Int32 → Int32 → Mm → Option (Int32 × Mm)) : Prop := ∀ (x1 : Int32) (x3 : Int32) (x4 : Int32) (M : Mm) (r : Int32) (M1 : Mm), g x1 x3 x4 M = some (r, M1) → ∀ (H : Heap) (locs : List Loc) (ls : Array Slot), lv_has ls 6 [(0, .ref (tad θ 3)), (1, .int x1), (3, .int x3), (4, .int x4)] → wd θ M H → va_S (tA θ) s.heap H locs → W p l e rm_X3_tight s m args below meth c H locs 0 0 (MQ below (qI θ r M1) args s 0 0 (tA θ)) (F0 m 152 ls [])
def J_X3_tight_53 (θ : Th) (p : Program) (l : Launch) (e : Env) (s : State) (m : MethodId) (args : Array Value) (below : List Frame) (meth : Method) (c : Code) (g : Int32 → Int32 → Int32 → Int32 → Mm → Option (Int32 × Mm)) : Prop := ∀ (x1 : Int32) (x2 : Int32) (x3 : Int32) (x4 : Int32) (M : Mm) (r : Int32) (M1 : Mm), g x1 x2 x3 x4 M = some (r, M1) → ∀ (H : Heap) (locs : List Loc) (ls : Array Slot), lv_has ls 6 [(0, .ref (tad θ 3)), (1, .int x1), (2, .int x2), (3, .int x3), (4, .int x4)] → wd θ M H → va_S (tA θ) s.heap H locs → W p l e rm_X3_tight s m args below meth c H locs 0 0 (MQ below (qI θ r M1) args s 0 0 (tA θ)) (F0 m 53 ls [])
def J_X3_tight_13 (θ : Th) (p : Program) (l : Launch) (e : Env) (s : State) (m : MethodId) (args : Array Value) (below : List Frame) (meth : Method) (c : Code) (g : Int32 → Int32 → Mm → Option (Int32 × Mm)) : Prop := ∀ (x1 : Int32) (s0 : Int32) (M : Mm) (r : Int32) (M1 : Mm), g x1 s0 M = some (r, M1) → ∀ (H : Heap) (locs : List Loc) (ls : Array Slot), lv_has ls 6 [(0, .ref (tad θ 3)), (1, .int x1)] → wd θ M H → va_S (tA θ) s.heap H locs → W p l e rm_X3_tight s m args below meth c H locs 0 0 (MQ below (qI θ r M1) args s 0 0 (tA θ)) (F0 m 13 ls [.int s0, .ref (tad θ 3)])
def J_X3_tight_0 (θ : Th) (p : Program) (l : Launch) (e : Env) (s : State) (m : MethodId) (args : Array Value) (below : List Frame) (meth : Method) (c : Code) (g : Int32 → Mm → Option (Int32 × Mm)) : Prop := ∀ (x1 : Int32) (M : Mm) (r : Int32) (M1 : Mm), g x1 M = some (r, M1) → ∀ (H : Heap) (locs : List Loc) (ls : Array Slot), lv_has ls 6 [(0, .ref (tad θ 3)), (1, .int x1)] → wd θ M H → va_S (tA θ) s.heap H locs → W p l e rm_X3_tight s m args below meth c H locs 0 0 (MQ below (qI θ r M1) args s 0 0 (tA θ)) (F0 m 0 ls [])
def b_X3_tight_99 (N : Nat) (k53 : Int32 → Int32 → Int32 → Int32 → Mm → Option (Int32 × Mm)) (x1 : Int32) (x2 : Int32) (x3 : Int32) (x4 : Int32) (s0 : Int32) (M : Mm) : Option (Int32 × Mm) :=
  (if x3 = 0 then k53 x1 x2 0 (x4 + 1) M else (if s0 = 0 then k53 x1 x2 1 (x4 + 1) M else (rA M 7 x1).bind fun v119 => (f_X3_excess N x1 x4 v119 M).bind fun (r120, M120) => (if (lg_cmp r120 0) = 0 then k53 x1 x2 1 (x4 + 1) M120 else k53 x1 x2 0 (x4 + 1) M120)))
set_option maxRecDepth 100000 in
set_option maxHeartbeats 4000000 in
theorem t_X3_tight_99 {θ : Th} {p : Program} {l : Launch} {e : Env} {s : State} {m : MethodId} {args : Array Value} {below : List Frame} {meth : Method} {c : Code} (C : Cx θ p s m args meth c cX3_tight 6 RX3 (some .boolean)) (N : Nat) {k53 : Int32 → Int32 → Int32 → Int32 → Mm → Option (Int32 × Mm)} (hk53 : J_X3_tight_53 θ p l e s m args below meth c k53) : J_X3_tight_99 θ p l e s m args below meth c (b_X3_tight_99 N k53) := by
  intro x1 x2 x3 x4 s0 M r M1 h H locs ls hl hw hS
  unfold b_X3_tight_99 at h
  refine lv_istore (lv' := [(5, .int s0), (0, .ref (tad θ 3)), (1, .int x1), (2, .int x2), (3, .int x3), (4, .int x4)]) C.1 C.2.1 dX3_tight_99 hl (by decide) rfl (fun ls hl => ?_)
  refine lv_iload_n C.1 C.2.1 dX3_tight_101 rfl (lv_at hl 4 rfl) ?_
  refine lv_if_eq (tgt := 132) C.1 C.2.1 dX3_tight_102 (by decide) (fun c102 => ?_) (fun c102 => ?_)
  · have h := it_t c102 h
    refine lv_iconst (v := 0) C.1 C.2.1 dX3_tight_132 (by decide) ?_
    refine lv_istore_n (lv' := [(3, .int 0), (5, .int s0), (0, .ref (tad θ 3)), (1, .int x1), (2, .int x2), (4, .int x4)]) C.1 C.2.1 dX3_tight_133 rfl hl (by decide) rfl (fun ls hl => ?_)
    refine lv_iinc (v := (x4 + 1)) (lv' := [(4, .int (x4 + 1)), (3, .int 0), (5, .int s0), (0, .ref (tad θ 3)), (1, .int x1), (2, .int x2)]) C.1 C.2.1 dX3_tight_134 hl (k := 5) rfl rfl (by decide) rfl (fun ls hl => ?_)
    refine lv_goto (tgt := 53) C.1 C.2.1 dX3_tight_137 (by decide) ?_
    exact hk53 _ _ _ _ _ _ _ h _ _ ls (lv_sub hl [3, 4, 5, 1, 0] rfl) hw hS
  · have h := it_f c102 h
    refine lv_iload C.1 C.2.1 dX3_tight_105 (lv_at hl 0 rfl) ?_
    refine lv_if_eq (tgt := 128) C.1 C.2.1 dX3_tight_107 (by decide) (fun c107 => ?_) (fun c107 => ?_)
    · have h := it_t c107 h
      refine lv_iconst (v := 1) C.1 C.2.1 dX3_tight_128 (by decide) ?_
      refine lv_goto (tgt := 133) C.1 C.2.1 dX3_tight_129 (by decide) ?_
      refine lv_istore_n (lv' := [(3, .int 1), (5, .int s0), (0, .ref (tad θ 3)), (1, .int x1), (2, .int x2), (4, .int x4)]) C.1 C.2.1 dX3_tight_133 rfl hl (by decide) rfl (fun ls hl => ?_)
      refine lv_iinc (v := (x4 + 1)) (lv' := [(4, .int (x4 + 1)), (3, .int 1), (5, .int s0), (0, .ref (tad θ 3)), (1, .int x1), (2, .int x2)]) C.1 C.2.1 dX3_tight_134 hl (k := 5) rfl rfl (by decide) rfl (fun ls hl => ?_)
      refine lv_goto (tgt := 53) C.1 C.2.1 dX3_tight_137 (by decide) ?_
      exact hk53 _ _ _ _ _ _ _ h _ _ ls (lv_sub hl [3, 4, 5, 1, 0] rfl) hw hS
    · have h := it_f c107 h
      refine lv_aload_n C.1 C.2.1 dX3_tight_110 rfl (lv_at hl 1 rfl) ?_
      refine lv_iload_n C.1 C.2.1 dX3_tight_111 rfl (lv_at hl 2 rfl) ?_
      refine lv_iload C.1 C.2.1 dX3_tight_112 (lv_at hl 5 rfl) ?_
      refine lv_aload_n C.1 C.2.1 dX3_tight_114 rfl (lv_at hl 1 rfl) ?_
      refine gf_X3_b C hw w_528 dX3_tight_115 ?_
      refine lv_iload_n C.1 C.2.1 dX3_tight_118 rfl (lv_at hl 2 rfl) ?_
      obtain ⟨v119, h119, h⟩ := bind_s h
      refine k_iald C hw 7 (by decide) h119 dX3_tight_119 ?_
      obtain ⟨⟨r120, M120⟩, h120, h⟩ := bind_s h
      dsimp only at h
      refine k_cl (k_runV (As := [.int x1, .int x4, .int v119]) C cf_X3_excess cv_X3_excess w_711 rc3 (c_X3_excess θ l N h120) ⟨rfl, rfl, Nat.le_of_ble_eq_true rfl, Nat.le_of_ble_eq_true rfl⟩ rfl hl.1 rfl (Nat.le_of_ble_eq_true rfl) dX3_tight_120 ⟨Nat.zero_le _, Nat.zero_le _⟩ hw) hS (fun H locs hw hS => ?_)
      refine lv_lconst (v := 0) C.1 C.2.1 dX3_tight_123 (by decide) ?_
      refine W.lcmp C.1 C.2.1 dX3_tight_124 ?_
      refine lv_if_ne (tgt := 132) C.1 C.2.1 dX3_tight_125 (by decide) (fun c125 => ?_) (fun c125 => ?_)
      · have h := it_f c125 h
        refine lv_iconst (v := 0) C.1 C.2.1 dX3_tight_132 (by decide) ?_
        refine lv_istore_n (lv' := [(3, .int 0), (5, .int s0), (0, .ref (tad θ 3)), (1, .int x1), (2, .int x2), (4, .int x4)]) C.1 C.2.1 dX3_tight_133 rfl hl (by decide) rfl (fun ls hl => ?_)
        refine lv_iinc (v := (x4 + 1)) (lv' := [(4, .int (x4 + 1)), (3, .int 0), (5, .int s0), (0, .ref (tad θ 3)), (1, .int x1), (2, .int x2)]) C.1 C.2.1 dX3_tight_134 hl (k := 5) rfl rfl (by decide) rfl (fun ls hl => ?_)
        refine lv_goto (tgt := 53) C.1 C.2.1 dX3_tight_137 (by decide) ?_
        exact hk53 _ _ _ _ _ _ _ h _ _ ls (lv_sub hl [3, 4, 5, 1, 0] rfl) hw hS
      · have h := it_t c125 h
        refine lv_iconst (v := 1) C.1 C.2.1 dX3_tight_128 (by decide) ?_
        refine lv_goto (tgt := 133) C.1 C.2.1 dX3_tight_129 (by decide) ?_
        refine lv_istore_n (lv' := [(3, .int 1), (5, .int s0), (0, .ref (tad θ 3)), (1, .int x1), (2, .int x2), (4, .int x4)]) C.1 C.2.1 dX3_tight_133 rfl hl (by decide) rfl (fun ls hl => ?_)
        refine lv_iinc (v := (x4 + 1)) (lv' := [(4, .int (x4 + 1)), (3, .int 1), (5, .int s0), (0, .ref (tad θ 3)), (1, .int x1), (2, .int x2)]) C.1 C.2.1 dX3_tight_134 hl (k := 5) rfl rfl (by decide) rfl (fun ls hl => ?_)
        refine lv_goto (tgt := 53) C.1 C.2.1 dX3_tight_137 (by decide) ?_
        exact hk53 _ _ _ _ _ _ _ h _ _ ls (lv_sub hl [3, 4, 5, 1, 0] rfl) hw hS
def F_X3_tight_152 (N : Nat) (k152 : Int32 → Int32 → Int32 → Mm → Option (Int32 × Mm)) (x1 : Int32) (x3 : Int32) (x4 : Int32) (M : Mm) : Option (Int32 × Mm) :=
  (if (M.1 9) ≤ x4 then (if x3 = 0 ∨ x3 = 1 then some (x3, M) else none) else (if x3 = 0 then k152 x1 0 (x4 + 1) M else (rL M 4 x4).bind fun v171 => (if (lg_cmp v171 0) = 0 then (f_X3_excess N x1 x4 0 M).bind fun (r182, M182) => (if (lg_cmp r182 0) = 0 then k152 x1 1 (x4 + 1) M182 else k152 x1 0 (x4 + 1) M182) else k152 x1 1 (x4 + 1) M)))
abbrev b_X3_tight_152 (N : Nat) : Int32 → Int32 → Int32 → Mm → Option (Int32 × Mm) := lpT (fun _ _ _ _ => none) (F_X3_tight_152 N) N
set_option maxRecDepth 100000 in
set_option maxHeartbeats 4000000 in
theorem tF_X3_tight_152 {θ : Th} {p : Program} {l : Launch} {e : Env} {s : State} {m : MethodId} {args : Array Value} {below : List Frame} {meth : Method} {c : Code} (C : Cx θ p s m args meth c cX3_tight 6 RX3 (some .boolean)) (N : Nat) {k152 : Int32 → Int32 → Int32 → Mm → Option (Int32 × Mm)} (hk152 : J_X3_tight_152 θ p l e s m args below meth c k152) : J_X3_tight_152 θ p l e s m args below meth c (F_X3_tight_152 N k152) := by
  intro x1 x3 x4 M r M1 h H locs ls hl hw hS
  unfold F_X3_tight_152 at h
  refine lv_iload C.1 C.2.1 dX3_tight_152 (lv_at hl 3 rfl) ?_
  refine lv_aload_n C.1 C.2.1 dX3_tight_154 rfl (lv_at hl 0 rfl) ?_
  refine gf_X3_found C hw w_539 dX3_tight_155 ?_
  refine lv_icmp_ge (tgt := 202) C.1 C.2.1 dX3_tight_158 (by decide) (fun c158 => ?_) (fun c158 => ?_)
  · have h := it_t c158 h
    refine lv_iload_n C.1 C.2.1 dX3_tight_202 rfl (lv_at hl 2 rfl) ?_
    obtain ⟨hz203, h⟩ := it_z h
    cases h
    exact k_retz C hw hS hz203 dX3_tight_203
  · have h := it_f c158 h
    refine lv_iload_n C.1 C.2.1 dX3_tight_161 rfl (lv_at hl 2 rfl) ?_
    refine lv_if_eq (tgt := 194) C.1 C.2.1 dX3_tight_162 (by decide) (fun c162 => ?_) (fun c162 => ?_)
    · have h := it_t c162 h
      refine lv_iconst (v := 0) C.1 C.2.1 dX3_tight_194 (by decide) ?_
      refine lv_istore_n (lv' := [(3, .int 0), (0, .ref (tad θ 3)), (1, .int x1), (4, .int x4)]) C.1 C.2.1 dX3_tight_195 rfl hl (by decide) rfl (fun ls hl => ?_)
      refine lv_iinc (v := (x4 + 1)) (lv' := [(4, .int (x4 + 1)), (3, .int 0), (0, .ref (tad θ 3)), (1, .int x1)]) C.1 C.2.1 dX3_tight_196 hl (k := 3) rfl rfl (by decide) rfl (fun ls hl => ?_)
      refine lv_goto (tgt := 152) C.1 C.2.1 dX3_tight_199 (by decide) ?_
      exact hk152 _ _ _ _ _ _ h _ _ ls (lv_sub hl [2, 3, 1, 0] rfl) hw hS
    · have h := it_f c162 h
      refine lv_aload_n C.1 C.2.1 dX3_tight_165 rfl (lv_at hl 0 rfl) ?_
      refine gf_X3_worth C hw w_542 dX3_tight_166 ?_
      refine lv_iload C.1 C.2.1 dX3_tight_169 (lv_at hl 3 rfl) ?_
      obtain ⟨v171, h171, h⟩ := bind_s h
      refine k_lald C hw 4 h171 dX3_tight_171 ?_
      refine lv_lconst (v := 0) C.1 C.2.1 dX3_tight_172 (by decide) ?_
      refine W.lcmp C.1 C.2.1 dX3_tight_173 ?_
      refine lv_if_ne (tgt := 190) C.1 C.2.1 dX3_tight_174 (by decide) (fun c174 => ?_) (fun c174 => ?_)
      · have h := it_f c174 h
        refine lv_iconst (v := 1) C.1 C.2.1 dX3_tight_190 (by decide) ?_
        refine lv_goto (tgt := 195) C.1 C.2.1 dX3_tight_191 (by decide) ?_
        refine lv_istore_n (lv' := [(3, .int 1), (0, .ref (tad θ 3)), (1, .int x1), (4, .int x4)]) C.1 C.2.1 dX3_tight_195 rfl hl (by decide) rfl (fun ls hl => ?_)
        refine lv_iinc (v := (x4 + 1)) (lv' := [(4, .int (x4 + 1)), (3, .int 1), (0, .ref (tad θ 3)), (1, .int x1)]) C.1 C.2.1 dX3_tight_196 hl (k := 3) rfl rfl (by decide) rfl (fun ls hl => ?_)
        refine lv_goto (tgt := 152) C.1 C.2.1 dX3_tight_199 (by decide) ?_
        exact hk152 _ _ _ _ _ _ h _ _ ls (lv_sub hl [2, 3, 1, 0] rfl) hw hS
      · have h := it_t c174 h
        refine lv_aload_n C.1 C.2.1 dX3_tight_177 rfl (lv_at hl 0 rfl) ?_
        refine lv_iload_n C.1 C.2.1 dX3_tight_178 rfl (lv_at hl 1 rfl) ?_
        refine lv_iload C.1 C.2.1 dX3_tight_179 (lv_at hl 3 rfl) ?_
        refine lv_iconst (v := 0) C.1 C.2.1 dX3_tight_181 (by decide) ?_
        obtain ⟨⟨r182, M182⟩, h182, h⟩ := bind_s h
        dsimp only at h
        refine k_cl (k_runV (As := [.int x1, .int x4, .int 0]) C cf_X3_excess cv_X3_excess w_711 rc3 (c_X3_excess θ l N h182) ⟨rfl, rfl, Nat.le_of_ble_eq_true rfl, Nat.le_of_ble_eq_true rfl⟩ rfl hl.1 rfl (Nat.le_of_ble_eq_true rfl) dX3_tight_182 ⟨Nat.zero_le _, Nat.zero_le _⟩ hw) hS (fun H locs hw hS => ?_)
        refine lv_lconst (v := 0) C.1 C.2.1 dX3_tight_185 (by decide) ?_
        refine W.lcmp C.1 C.2.1 dX3_tight_186 ?_
        refine lv_if_ne (tgt := 194) C.1 C.2.1 dX3_tight_187 (by decide) (fun c187 => ?_) (fun c187 => ?_)
        · have h := it_f c187 h
          refine lv_iconst (v := 0) C.1 C.2.1 dX3_tight_194 (by decide) ?_
          refine lv_istore_n (lv' := [(3, .int 0), (0, .ref (tad θ 3)), (1, .int x1), (4, .int x4)]) C.1 C.2.1 dX3_tight_195 rfl hl (by decide) rfl (fun ls hl => ?_)
          refine lv_iinc (v := (x4 + 1)) (lv' := [(4, .int (x4 + 1)), (3, .int 0), (0, .ref (tad θ 3)), (1, .int x1)]) C.1 C.2.1 dX3_tight_196 hl (k := 3) rfl rfl (by decide) rfl (fun ls hl => ?_)
          refine lv_goto (tgt := 152) C.1 C.2.1 dX3_tight_199 (by decide) ?_
          exact hk152 _ _ _ _ _ _ h _ _ ls (lv_sub hl [2, 3, 1, 0] rfl) hw hS
        · have h := it_t c187 h
          refine lv_iconst (v := 1) C.1 C.2.1 dX3_tight_190 (by decide) ?_
          refine lv_goto (tgt := 195) C.1 C.2.1 dX3_tight_191 (by decide) ?_
          refine lv_istore_n (lv' := [(3, .int 1), (0, .ref (tad θ 3)), (1, .int x1), (4, .int x4)]) C.1 C.2.1 dX3_tight_195 rfl hl (by decide) rfl (fun ls hl => ?_)
          refine lv_iinc (v := (x4 + 1)) (lv' := [(4, .int (x4 + 1)), (3, .int 1), (0, .ref (tad θ 3)), (1, .int x1)]) C.1 C.2.1 dX3_tight_196 hl (k := 3) rfl rfl (by decide) rfl (fun ls hl => ?_)
          refine lv_goto (tgt := 152) C.1 C.2.1 dX3_tight_199 (by decide) ?_
          exact hk152 _ _ _ _ _ _ h _ _ ls (lv_sub hl [2, 3, 1, 0] rfl) hw hS
theorem t_X3_tight_152 {θ : Th} {p : Program} {l : Launch} {e : Env} {s : State} {m : MethodId} {args : Array Value} {below : List Frame} {meth : Method} {c : Code} (C : Cx θ p s m args meth c cX3_tight 6 RX3 (some .boolean)) (N : Nat) : J_X3_tight_152 θ p l e s m args below meth c (b_X3_tight_152 N) := lpT_ind (J := J_X3_tight_152 θ p l e s m args below meth c) (fun _ _ _ _ _ _ h => by cases h) (fun k hk => tF_X3_tight_152 C N hk) N
def F_X3_tight_53 (N : Nat) (k53 : Int32 → Int32 → Int32 → Int32 → Mm → Option (Int32 × Mm)) (x1 : Int32) (x2 : Int32) (x3 : Int32) (x4 : Int32) (M : Mm) : Option (Int32 × Mm) :=
  (if (M.1 9) ≤ x4 then (f_X3_everyRow N M).bind fun (r142, M142) => (f_X3_collect N r142 1 M142).bind fun M146 => b_X3_tight_152 N x1 x3 0 M146 else (rL M 4 x4).bind fun v68 => (rL M 3 x4).bind fun v75 => (rL M 4 x2).bind fun v81 => (rL M 3 x2).bind fun v87 => (f_X3_compare N v68 v75 v81 v87 M).bind fun (r88, M88) => (if r88 = 0 then b_X3_tight_99 N k53 x1 x2 x3 x4 1 M88 else b_X3_tight_99 N k53 x1 x2 x3 x4 0 M88))
abbrev b_X3_tight_53 (N : Nat) : Int32 → Int32 → Int32 → Int32 → Mm → Option (Int32 × Mm) := lpT (fun _ _ _ _ _ => none) (F_X3_tight_53 N) N
set_option maxRecDepth 100000 in
set_option maxHeartbeats 4000000 in
theorem tF_X3_tight_53 {θ : Th} {p : Program} {l : Launch} {e : Env} {s : State} {m : MethodId} {args : Array Value} {below : List Frame} {meth : Method} {c : Code} (C : Cx θ p s m args meth c cX3_tight 6 RX3 (some .boolean)) (N : Nat) {k53 : Int32 → Int32 → Int32 → Int32 → Mm → Option (Int32 × Mm)} (hk53 : J_X3_tight_53 θ p l e s m args below meth c k53) : J_X3_tight_53 θ p l e s m args below meth c (F_X3_tight_53 N k53) := by
  intro x1 x2 x3 x4 M r M1 h H locs ls hl hw hS
  unfold F_X3_tight_53 at h
  refine lv_iload C.1 C.2.1 dX3_tight_53 (lv_at hl 4 rfl) ?_
  refine lv_aload_n C.1 C.2.1 dX3_tight_55 rfl (lv_at hl 0 rfl) ?_
  refine gf_X3_found C hw w_539 dX3_tight_56 ?_
  refine lv_icmp_ge (tgt := 140) C.1 C.2.1 dX3_tight_59 (by decide) (fun c59 => ?_) (fun c59 => ?_)
  · have h := it_t c59 h
    refine lv_aload_n C.1 C.2.1 dX3_tight_140 rfl (lv_at hl 0 rfl) ?_
    refine lv_aload_n C.1 C.2.1 dX3_tight_141 rfl (lv_at hl 0 rfl) ?_
    obtain ⟨⟨r142, M142⟩, h142, h⟩ := bind_s h
    dsimp only at h
    refine k_ci (k_runV (As := []) C cf_X3_everyRow cv_X3_everyRow w_625 rc3 (c_X3_everyRow θ l N h142) ⟨rfl, rfl, Nat.le_of_ble_eq_true rfl, Nat.le_of_ble_eq_true rfl⟩ rfl hl.1 rfl (Nat.le_of_ble_eq_true rfl) dX3_tight_142 ⟨Nat.zero_le _, Nat.zero_le _⟩ hw) hS (fun H locs hw hS => ?_)
    refine lv_iconst (v := 1) C.1 C.2.1 dX3_tight_145 (by decide) ?_
    obtain ⟨M146, h146, h⟩ := bind_s h
    refine k_cv (k_runV (As := [.int r142, .int 1]) C cf_X3_collect cv_X3_collect w_633 rc3 (c_X3_collect θ l N h146) ⟨rfl, rfl, Nat.le_of_ble_eq_true rfl, Nat.le_of_ble_eq_true rfl⟩ rfl hl.1 rfl (Nat.le_of_ble_eq_true rfl) dX3_tight_146 ⟨Nat.zero_le _, Nat.zero_le _⟩ hw) hS (fun H locs hw hS => ?_)
    refine lv_iconst (v := 0) C.1 C.2.1 dX3_tight_149 (by decide) ?_
    refine lv_istore (lv' := [(4, .int 0), (0, .ref (tad θ 3)), (1, .int x1), (2, .int x2), (3, .int x3)]) C.1 C.2.1 dX3_tight_150 hl (by decide) rfl (fun ls hl => ?_)
    exact t_X3_tight_152 C N _ _ _ _ _ _ h _ _ ls (lv_sub hl [1, 2, 4, 0] rfl) hw hS
  · have h := it_f c59 h
    refine lv_aload_n C.1 C.2.1 dX3_tight_62 rfl (lv_at hl 0 rfl) ?_
    refine gf_X3_worth C hw w_542 dX3_tight_63 ?_
    refine lv_iload C.1 C.2.1 dX3_tight_66 (lv_at hl 4 rfl) ?_
    obtain ⟨v68, h68, h⟩ := bind_s h
    refine k_lald C hw 4 h68 dX3_tight_68 ?_
    refine lv_aload_n C.1 C.2.1 dX3_tight_69 rfl (lv_at hl 0 rfl) ?_
    refine gf_X3_below C hw w_541 dX3_tight_70 ?_
    refine lv_iload C.1 C.2.1 dX3_tight_73 (lv_at hl 4 rfl) ?_
    obtain ⟨v75, h75, h⟩ := bind_s h
    refine k_lald C hw 3 h75 dX3_tight_75 ?_
    refine lv_aload_n C.1 C.2.1 dX3_tight_76 rfl (lv_at hl 0 rfl) ?_
    refine gf_X3_worth C hw w_542 dX3_tight_77 ?_
    refine lv_iload_n C.1 C.2.1 dX3_tight_80 rfl (lv_at hl 2 rfl) ?_
    obtain ⟨v81, h81, h⟩ := bind_s h
    refine k_lald C hw 4 h81 dX3_tight_81 ?_
    refine lv_aload_n C.1 C.2.1 dX3_tight_82 rfl (lv_at hl 0 rfl) ?_
    refine gf_X3_below C hw w_541 dX3_tight_83 ?_
    refine lv_iload_n C.1 C.2.1 dX3_tight_86 rfl (lv_at hl 2 rfl) ?_
    obtain ⟨v87, h87, h⟩ := bind_s h
    refine k_lald C hw 3 h87 dX3_tight_87 ?_
    obtain ⟨⟨r88, M88⟩, h88, h⟩ := bind_s h
    dsimp only at h
    refine k_ci (k_runS (As := [.long v68, .long v75, .long v81, .long v87]) C cf_X3_compare cs_X3_compare w_686 (c_X3_compare θ l N h88) ⟨rfl, rfl, Nat.le_of_ble_eq_true rfl, Nat.le_of_ble_eq_true rfl⟩ rfl hl.1 rfl (Nat.le_of_ble_eq_true rfl) dX3_tight_88 ⟨Nat.zero_le _, Nat.zero_le _⟩ hw) hS (fun H locs hw hS => ?_)
    refine lv_if_ne (tgt := 98) C.1 C.2.1 dX3_tight_91 (by decide) (fun c91 => ?_) (fun c91 => ?_)
    · have h := it_f c91 h
      refine lv_iconst (v := 0) C.1 C.2.1 dX3_tight_98 (by decide) ?_
      exact t_X3_tight_99 C N hk53 _ _ _ _ _ _ _ _ h _ _ ls (lv_sub hl [0, 1, 2, 3, 4] rfl) hw hS
    · have h := it_t c91 h
      refine lv_iconst (v := 1) C.1 C.2.1 dX3_tight_94 (by decide) ?_
      refine lv_goto (tgt := 99) C.1 C.2.1 dX3_tight_95 (by decide) ?_
      exact t_X3_tight_99 C N hk53 _ _ _ _ _ _ _ _ h _ _ ls (lv_sub hl [0, 1, 2, 3, 4] rfl) hw hS
theorem t_X3_tight_53 {θ : Th} {p : Program} {l : Launch} {e : Env} {s : State} {m : MethodId} {args : Array Value} {below : List Frame} {meth : Method} {c : Code} (C : Cx θ p s m args meth c cX3_tight 6 RX3 (some .boolean)) (N : Nat) : J_X3_tight_53 θ p l e s m args below meth c (b_X3_tight_53 N) := lpT_ind (J := J_X3_tight_53 θ p l e s m args below meth c) (fun _ _ _ _ _ _ _ h => by cases h) (fun k hk => tF_X3_tight_53 C N hk) N
def b_X3_tight_13 (N : Nat) (x1 : Int32) (s0 : Int32) (M : Mm) : Option (Int32 × Mm) :=
  (f_X3_outside N x1 0 ((M.1 5) - 1) M).bind fun (r21, M21) => (f_X3_refuses N s0 r21 0 0 M21).bind fun (r26, M26) => (if r26 = 0 then (f_X3_everyRow N M26).bind fun (r36, M36) => (f_X3_collect N r36 0 M36).bind fun M40 => (f_X3_best N M40).bind fun (r44, M44) => b_X3_tight_53 N x1 r44 1 0 M44 else some (0, M26))
set_option maxRecDepth 100000 in
set_option maxHeartbeats 4000000 in
theorem t_X3_tight_13 {θ : Th} {p : Program} {l : Launch} {e : Env} {s : State} {m : MethodId} {args : Array Value} {below : List Frame} {meth : Method} {c : Code} (C : Cx θ p s m args meth c cX3_tight 6 RX3 (some .boolean)) (N : Nat) : J_X3_tight_13 θ p l e s m args below meth c (b_X3_tight_13 N) := by
  intro x1 s0 M r M1 h H locs ls hl hw hS
  unfold b_X3_tight_13 at h
  refine lv_iload_n C.1 C.2.1 dX3_tight_13 rfl (lv_at hl 1 rfl) ?_
  refine lv_iconst (v := 0) C.1 C.2.1 dX3_tight_14 (by decide) ?_
  refine lv_aload_n C.1 C.2.1 dX3_tight_15 rfl (lv_at hl 0 rfl) ?_
  refine gf_X3_m C hw w_526 dX3_tight_16 ?_
  refine lv_iconst (v := 1) C.1 C.2.1 dX3_tight_19 (by decide) ?_
  refine lv_isub C.1 C.2.1 dX3_tight_20 ?_
  obtain ⟨⟨r21, M21⟩, h21, h⟩ := bind_s h
  dsimp only at h
  refine k_ci (k_runS (As := [.int x1, .int 0, .int ((M.1 5) - 1)]) C cf_X3_outside cs_X3_outside w_594 (c_X3_outside θ l N h21) ⟨rfl, rfl, Nat.le_of_ble_eq_true rfl, Nat.le_of_ble_eq_true rfl⟩ rfl hl.1 rfl (Nat.le_of_ble_eq_true rfl) dX3_tight_21 ⟨Nat.zero_le _, Nat.zero_le _⟩ hw) hS (fun H locs hw hS => ?_)
  refine lv_iconst (v := 0) C.1 C.2.1 dX3_tight_24 (by decide) ?_
  refine lv_iconst (v := 0) C.1 C.2.1 dX3_tight_25 (by decide) ?_
  obtain ⟨⟨r26, M26⟩, h26, h⟩ := bind_s h
  dsimp only at h
  refine k_ci (k_runV (As := [.int s0, .int r21, .int 0, .int 0]) C cf_X3_refuses cv_X3_refuses w_597 rc3 (c_X3_refuses θ l N h26) ⟨rfl, rfl, Nat.le_of_ble_eq_true rfl, Nat.le_of_ble_eq_true rfl⟩ rfl hl.1 rfl (Nat.le_of_ble_eq_true rfl) dX3_tight_26 ⟨Nat.zero_le _, Nat.zero_le _⟩ hw) hS (fun H locs hw hS => ?_)
  refine lv_if_eq (tgt := 34) C.1 C.2.1 dX3_tight_29 (by decide) (fun c29 => ?_) (fun c29 => ?_)
  · have h := it_t c29 h
    refine lv_aload_n C.1 C.2.1 dX3_tight_34 rfl (lv_at hl 0 rfl) ?_
    refine lv_aload_n C.1 C.2.1 dX3_tight_35 rfl (lv_at hl 0 rfl) ?_
    obtain ⟨⟨r36, M36⟩, h36, h⟩ := bind_s h
    dsimp only at h
    refine k_ci (k_runV (As := []) C cf_X3_everyRow cv_X3_everyRow w_625 rc3 (c_X3_everyRow θ l N h36) ⟨rfl, rfl, Nat.le_of_ble_eq_true rfl, Nat.le_of_ble_eq_true rfl⟩ rfl hl.1 rfl (Nat.le_of_ble_eq_true rfl) dX3_tight_36 ⟨Nat.zero_le _, Nat.zero_le _⟩ hw) hS (fun H locs hw hS => ?_)
    refine lv_iconst (v := 0) C.1 C.2.1 dX3_tight_39 (by decide) ?_
    obtain ⟨M40, h40, h⟩ := bind_s h
    refine k_cv (k_runV (As := [.int r36, .int 0]) C cf_X3_collect cv_X3_collect w_633 rc3 (c_X3_collect θ l N h40) ⟨rfl, rfl, Nat.le_of_ble_eq_true rfl, Nat.le_of_ble_eq_true rfl⟩ rfl hl.1 rfl (Nat.le_of_ble_eq_true rfl) dX3_tight_40 ⟨Nat.zero_le _, Nat.zero_le _⟩ hw) hS (fun H locs hw hS => ?_)
    refine lv_aload_n C.1 C.2.1 dX3_tight_43 rfl (lv_at hl 0 rfl) ?_
    obtain ⟨⟨r44, M44⟩, h44, h⟩ := bind_s h
    dsimp only at h
    refine k_ci (k_runV (As := []) C cf_X3_best cv_X3_best w_678 rc3 (c_X3_best θ l N h44) ⟨rfl, rfl, Nat.le_of_ble_eq_true rfl, Nat.le_of_ble_eq_true rfl⟩ rfl hl.1 rfl (Nat.le_of_ble_eq_true rfl) dX3_tight_44 ⟨Nat.zero_le _, Nat.zero_le _⟩ hw) hS (fun H locs hw hS => ?_)
    refine lv_istore_n (lv' := [(2, .int r44), (0, .ref (tad θ 3)), (1, .int x1)]) C.1 C.2.1 dX3_tight_47 rfl hl (by decide) rfl (fun ls hl => ?_)
    refine lv_iconst (v := 1) C.1 C.2.1 dX3_tight_48 (by decide) ?_
    refine lv_istore_n (lv' := [(3, .int 1), (2, .int r44), (0, .ref (tad θ 3)), (1, .int x1)]) C.1 C.2.1 dX3_tight_49 rfl hl (by decide) rfl (fun ls hl => ?_)
    refine lv_iconst (v := 0) C.1 C.2.1 dX3_tight_50 (by decide) ?_
    refine lv_istore (lv' := [(4, .int 0), (3, .int 1), (2, .int r44), (0, .ref (tad θ 3)), (1, .int x1)]) C.1 C.2.1 dX3_tight_51 hl (by decide) rfl (fun ls hl => ?_)
    exact t_X3_tight_53 C N _ _ _ _ _ _ _ h _ _ ls (lv_sub hl [3, 4, 2, 1, 0] rfl) hw hS
  · have h := it_f c29 h
    refine lv_iconst (v := 0) C.1 C.2.1 dX3_tight_32 (by decide) ?_
    cases h
    exact k_retz C hw hS (Or.inl rfl) dX3_tight_33
def b_X3_tight_0 (N : Nat) (x1 : Int32) (M : Mm) : Option (Int32 × Mm) :=
  (f_X3_status N M).bind fun (r2, M2) => (if r2 = 0 then b_X3_tight_13 N x1 0 M2 else b_X3_tight_13 N x1 1 M2)
set_option maxRecDepth 100000 in
set_option maxHeartbeats 4000000 in
theorem t_X3_tight_0 {θ : Th} {p : Program} {l : Launch} {e : Env} {s : State} {m : MethodId} {args : Array Value} {below : List Frame} {meth : Method} {c : Code} (C : Cx θ p s m args meth c cX3_tight 6 RX3 (some .boolean)) (N : Nat) : J_X3_tight_0 θ p l e s m args below meth c (b_X3_tight_0 N) := by
  intro x1 M r M1 h H locs ls hl hw hS
  unfold b_X3_tight_0 at h
  refine lv_aload_n C.1 C.2.1 dX3_tight_0 rfl (lv_at hl 0 rfl) ?_
  refine lv_aload_n C.1 C.2.1 dX3_tight_1 rfl (lv_at hl 0 rfl) ?_
  obtain ⟨⟨r2, M2⟩, h2, h⟩ := bind_s h
  dsimp only at h
  refine k_ci (k_runV (As := []) C cf_X3_status cv_X3_status w_621 rc3 (c_X3_status θ l N h2) ⟨rfl, rfl, Nat.le_of_ble_eq_true rfl, Nat.le_of_ble_eq_true rfl⟩ rfl hl.1 rfl (Nat.le_of_ble_eq_true rfl) dX3_tight_2 ⟨Nat.zero_le _, Nat.zero_le _⟩ hw) hS (fun H locs hw hS => ?_)
  refine lv_if_eq (tgt := 12) C.1 C.2.1 dX3_tight_5 (by decide) (fun c5 => ?_) (fun c5 => ?_)
  · have h := it_t c5 h
    refine lv_iconst (v := 0) C.1 C.2.1 dX3_tight_12 (by decide) ?_
    exact t_X3_tight_13 C N _ _ _ _ _ h _ _ ls (lv_sub hl [0, 1] rfl) hw hS
  · have h := it_f c5 h
    refine lv_iconst (v := 1) C.1 C.2.1 dX3_tight_8 (by decide) ?_
    refine lv_goto (tgt := 13) C.1 C.2.1 dX3_tight_9 (by decide) ?_
    exact t_X3_tight_13 C N _ _ _ _ _ h _ _ ls (lv_sub hl [0, 1] rfl) hw hS
def f_X3_tight (N : Nat) (x1 : Int32) (M : Mm) : Option (Int32 × Mm) := b_X3_tight_0 N x1 M
set_option maxRecDepth 100000 in
theorem c_X3_tight (θ : Th) (l : Launch) (N : Nat) {x1 : Int32} {M : Mm} {r : Int32} {M1 : Mm} (h : f_X3_tight N x1 M = some (r, M1)) : Met l yX3_tight (gws yX3_tight cX3_tight 6 (some .boolean)) rm_X3_tight (va_Pc [.ref (tad θ 3), .int x1] (wU θ M)) (qI θ r M1) 0 0 (tA θ) :=
  k_met (by decide +kernel) (Nat.le_of_ble_eq_true rfl) (fun p e s m args below meth c C ls hl hw => t_X3_tight_0 C N _ _ _ _ h _ _ ls (lv_sub hl [0, 1] rfl) hw va_S.rf)
abbrev rm_X3_conflict : Room := { frames := 5, cells := 0, slots := 0, locals := 124 }
def J_X3_conflict_35 (θ : Th) (p : Program) (l : Launch) (e : Env) (s : State) (m : MethodId) (args : Array Value) (below : List Frame) (meth : Method) (c : Code) (g : Int32 → Int32 → Mm → Option (Int32 × Mm)) : Prop := ∀ (x1 : Int32) (x2 : Int32) (M : Mm) (r : Int32) (M1 : Mm), g x1 x2 M = some (r, M1) → ∀ (H : Heap) (locs : List Loc) (ls : Array Slot), lv_has ls 4 [(0, .ref (tad θ 3)), (1, .int x1), (2, .int x2)] → wd θ M H → va_S (tA θ) s.heap H locs → W p l e rm_X3_conflict s m args below meth c H locs 0 0 (MQ below (qI θ r M1) args s 0 0 (tA θ)) (F0 m 35 ls [])
def J_X3_conflict_17 (θ : Th) (p : Program) (l : Launch) (e : Env) (s : State) (m : MethodId) (args : Array Value) (below : List Frame) (meth : Method) (c : Code) (g : Int32 → Mm → Option (Int32 × Mm)) : Prop := ∀ (s0 : Int32) (M : Mm) (r : Int32) (M1 : Mm), g s0 M = some (r, M1) → ∀ (H : Heap) (locs : List Loc) (ls : Array Slot), lv_has ls 4 [(0, .ref (tad θ 3))] → wd θ M H → va_S (tA θ) s.heap H locs → W p l e rm_X3_conflict s m args below meth c H locs 0 0 (MQ below (qI θ r M1) args s 0 0 (tA θ)) (F0 m 17 ls [.int s0, .ref (tad θ 3)])
def J_X3_conflict_0 (θ : Th) (p : Program) (l : Launch) (e : Env) (s : State) (m : MethodId) (args : Array Value) (below : List Frame) (meth : Method) (c : Code) (g : Mm → Option (Int32 × Mm)) : Prop := ∀ (M : Mm) (r : Int32) (M1 : Mm), g M = some (r, M1) → ∀ (H : Heap) (locs : List Loc) (ls : Array Slot), lv_has ls 4 [(0, .ref (tad θ 3))] → wd θ M H → va_S (tA θ) s.heap H locs → W p l e rm_X3_conflict s m args below meth c H locs 0 0 (MQ below (qI θ r M1) args s 0 0 (tA θ)) (F0 m 0 ls [])
def F_X3_conflict_35 (N : Nat) (k35 : Int32 → Int32 → Mm → Option (Int32 × Mm)) (x1 : Int32) (x2 : Int32) (M : Mm) : Option (Int32 × Mm) :=
  (if (M.1 5) ≤ x2 then some (x1, M) else (f_X3_infeasible N (x1 &&& ((1 <<< (x2 &&& 31)) ^^^ (-1))) M).bind fun (r53, M53) => (if r53 = 0 then k35 x1 (x2 + 1) M53 else k35 (x1 &&& ((1 <<< (x2 &&& 31)) ^^^ (-1))) (x2 + 1) M53))
abbrev b_X3_conflict_35 (N : Nat) : Int32 → Int32 → Mm → Option (Int32 × Mm) := lpT (fun _ _ _ => none) (F_X3_conflict_35 N) N
set_option maxRecDepth 100000 in
set_option maxHeartbeats 4000000 in
theorem tF_X3_conflict_35 {θ : Th} {p : Program} {l : Launch} {e : Env} {s : State} {m : MethodId} {args : Array Value} {below : List Frame} {meth : Method} {c : Code} (C : Cx θ p s m args meth c cX3_conflict 4 RX3 (some .int)) (N : Nat) {k35 : Int32 → Int32 → Mm → Option (Int32 × Mm)} (hk35 : J_X3_conflict_35 θ p l e s m args below meth c k35) : J_X3_conflict_35 θ p l e s m args below meth c (F_X3_conflict_35 N k35) := by
  intro x1 x2 M r M1 h H locs ls hl hw hS
  unfold F_X3_conflict_35 at h
  refine lv_iload_n C.1 C.2.1 dX3_conflict_35 rfl (lv_at hl 2 rfl) ?_
  refine lv_aload_n C.1 C.2.1 dX3_conflict_36 rfl (lv_at hl 0 rfl) ?_
  refine gf_X3_m C hw w_526 dX3_conflict_37 ?_
  refine lv_icmp_ge (tgt := 71) C.1 C.2.1 dX3_conflict_40 (by decide) (fun c40 => ?_) (fun c40 => ?_)
  · have h := it_t c40 h
    refine lv_iload_n C.1 C.2.1 dX3_conflict_71 rfl (lv_at hl 1 rfl) ?_
    cases h
    exact k_reti C hw hS dX3_conflict_72
  · have h := it_f c40 h
    refine lv_iload_n C.1 C.2.1 dX3_conflict_43 rfl (lv_at hl 1 rfl) ?_
    refine lv_iconst (v := 1) C.1 C.2.1 dX3_conflict_44 (by decide) ?_
    refine lv_iload_n C.1 C.2.1 dX3_conflict_45 rfl (lv_at hl 2 rfl) ?_
    refine lv_ishl C.1 C.2.1 dX3_conflict_46 ?_
    refine lv_iconst (v := (-1)) C.1 C.2.1 dX3_conflict_47 (by decide) ?_
    refine lv_ixor C.1 C.2.1 dX3_conflict_48 ?_
    refine lv_iand C.1 C.2.1 dX3_conflict_49 ?_
    refine lv_istore_n (lv' := [(3, .int (x1 &&& ((1 <<< (x2 &&& 31)) ^^^ (-1)))), (0, .ref (tad θ 3)), (1, .int x1), (2, .int x2)]) C.1 C.2.1 dX3_conflict_50 rfl hl (by decide) rfl (fun ls hl => ?_)
    refine lv_aload_n C.1 C.2.1 dX3_conflict_51 rfl (lv_at hl 1 rfl) ?_
    refine lv_iload_n C.1 C.2.1 dX3_conflict_52 rfl (lv_at hl 0 rfl) ?_
    obtain ⟨⟨r53, M53⟩, h53, h⟩ := bind_s h
    dsimp only at h
    refine k_ci (k_runV (As := [.int (x1 &&& ((1 <<< (x2 &&& 31)) ^^^ (-1)))]) C cf_X3_infeasible cv_X3_infeasible w_629 rc3 (c_X3_infeasible θ l N h53) ⟨rfl, rfl, Nat.le_of_ble_eq_true rfl, Nat.le_of_ble_eq_true rfl⟩ rfl hl.1 rfl (Nat.le_of_ble_eq_true rfl) dX3_conflict_53 ⟨Nat.zero_le _, Nat.zero_le _⟩ hw) hS (fun H locs hw hS => ?_)
    refine lv_if_eq (tgt := 63) C.1 C.2.1 dX3_conflict_56 (by decide) (fun c56 => ?_) (fun c56 => ?_)
    · have h := it_t c56 h
      refine lv_iload_n C.1 C.2.1 dX3_conflict_63 rfl (lv_at hl 2 rfl) ?_
      refine lv_istore_n (lv' := [(1, .int x1), (3, .int (x1 &&& ((1 <<< (x2 &&& 31)) ^^^ (-1)))), (0, .ref (tad θ 3)), (2, .int x2)]) C.1 C.2.1 dX3_conflict_64 rfl hl (by decide) rfl (fun ls hl => ?_)
      refine lv_iinc (v := (x2 + 1)) (lv' := [(2, .int (x2 + 1)), (1, .int x1), (3, .int (x1 &&& ((1 <<< (x2 &&& 31)) ^^^ (-1)))), (0, .ref (tad θ 3))]) C.1 C.2.1 dX3_conflict_65 hl (k := 3) rfl rfl (by decide) rfl (fun ls hl => ?_)
      refine lv_goto (tgt := 35) C.1 C.2.1 dX3_conflict_68 (by decide) ?_
      exact hk35 _ _ _ _ _ h _ _ ls (lv_sub hl [3, 1, 0] rfl) hw hS
    · have h := it_f c56 h
      refine lv_iload_n C.1 C.2.1 dX3_conflict_59 rfl (lv_at hl 0 rfl) ?_
      refine lv_goto (tgt := 64) C.1 C.2.1 dX3_conflict_60 (by decide) ?_
      refine lv_istore_n (lv' := [(1, .int (x1 &&& ((1 <<< (x2 &&& 31)) ^^^ (-1)))), (3, .int (x1 &&& ((1 <<< (x2 &&& 31)) ^^^ (-1)))), (0, .ref (tad θ 3)), (2, .int x2)]) C.1 C.2.1 dX3_conflict_64 rfl hl (by decide) rfl (fun ls hl => ?_)
      refine lv_iinc (v := (x2 + 1)) (lv' := [(2, .int (x2 + 1)), (1, .int (x1 &&& ((1 <<< (x2 &&& 31)) ^^^ (-1)))), (3, .int (x1 &&& ((1 <<< (x2 &&& 31)) ^^^ (-1)))), (0, .ref (tad θ 3))]) C.1 C.2.1 dX3_conflict_65 hl (k := 3) rfl rfl (by decide) rfl (fun ls hl => ?_)
      refine lv_goto (tgt := 35) C.1 C.2.1 dX3_conflict_68 (by decide) ?_
      exact hk35 _ _ _ _ _ h _ _ ls (lv_sub hl [3, 1, 0] rfl) hw hS
theorem t_X3_conflict_35 {θ : Th} {p : Program} {l : Launch} {e : Env} {s : State} {m : MethodId} {args : Array Value} {below : List Frame} {meth : Method} {c : Code} (C : Cx θ p s m args meth c cX3_conflict 4 RX3 (some .int)) (N : Nat) : J_X3_conflict_35 θ p l e s m args below meth c (b_X3_conflict_35 N) := lpT_ind (J := J_X3_conflict_35 θ p l e s m args below meth c) (fun _ _ _ _ _ h => by cases h) (fun k hk => tF_X3_conflict_35 C N hk) N
def b_X3_conflict_17 (N : Nat) (s0 : Int32) (M : Mm) : Option (Int32 × Mm) :=
  (f_X3_refuses N s0 0 0 0 M).bind fun (r20, M20) => (if r20 = 0 then (f_X3_everyRow N M20).bind fun (r29, M29) => b_X3_conflict_35 N r29 0 M29 else some (0, M20))
set_option maxRecDepth 100000 in
set_option maxHeartbeats 4000000 in
theorem t_X3_conflict_17 {θ : Th} {p : Program} {l : Launch} {e : Env} {s : State} {m : MethodId} {args : Array Value} {below : List Frame} {meth : Method} {c : Code} (C : Cx θ p s m args meth c cX3_conflict 4 RX3 (some .int)) (N : Nat) : J_X3_conflict_17 θ p l e s m args below meth c (b_X3_conflict_17 N) := by
  intro s0 M r M1 h H locs ls hl hw hS
  unfold b_X3_conflict_17 at h
  refine lv_iconst (v := 0) C.1 C.2.1 dX3_conflict_17 (by decide) ?_
  refine lv_iconst (v := 0) C.1 C.2.1 dX3_conflict_18 (by decide) ?_
  refine lv_iconst (v := 0) C.1 C.2.1 dX3_conflict_19 (by decide) ?_
  obtain ⟨⟨r20, M20⟩, h20, h⟩ := bind_s h
  dsimp only at h
  refine k_ci (k_runV (As := [.int s0, .int 0, .int 0, .int 0]) C cf_X3_refuses cv_X3_refuses w_597 rc3 (c_X3_refuses θ l N h20) ⟨rfl, rfl, Nat.le_of_ble_eq_true rfl, Nat.le_of_ble_eq_true rfl⟩ rfl hl.1 rfl (Nat.le_of_ble_eq_true rfl) dX3_conflict_20 ⟨Nat.zero_le _, Nat.zero_le _⟩ hw) hS (fun H locs hw hS => ?_)
  refine lv_if_eq (tgt := 28) C.1 C.2.1 dX3_conflict_23 (by decide) (fun c23 => ?_) (fun c23 => ?_)
  · have h := it_t c23 h
    refine lv_aload_n C.1 C.2.1 dX3_conflict_28 rfl (lv_at hl 0 rfl) ?_
    obtain ⟨⟨r29, M29⟩, h29, h⟩ := bind_s h
    dsimp only at h
    refine k_ci (k_runV (As := []) C cf_X3_everyRow cv_X3_everyRow w_625 rc3 (c_X3_everyRow θ l N h29) ⟨rfl, rfl, Nat.le_of_ble_eq_true rfl, Nat.le_of_ble_eq_true rfl⟩ rfl hl.1 rfl (Nat.le_of_ble_eq_true rfl) dX3_conflict_29 ⟨Nat.zero_le _, Nat.zero_le _⟩ hw) hS (fun H locs hw hS => ?_)
    refine lv_istore_n (lv' := [(1, .int r29), (0, .ref (tad θ 3))]) C.1 C.2.1 dX3_conflict_32 rfl hl (by decide) rfl (fun ls hl => ?_)
    refine lv_iconst (v := 0) C.1 C.2.1 dX3_conflict_33 (by decide) ?_
    refine lv_istore_n (lv' := [(2, .int 0), (1, .int r29), (0, .ref (tad θ 3))]) C.1 C.2.1 dX3_conflict_34 rfl hl (by decide) rfl (fun ls hl => ?_)
    exact t_X3_conflict_35 C N _ _ _ _ _ h _ _ ls (lv_sub hl [2, 1, 0] rfl) hw hS
  · have h := it_f c23 h
    refine lv_iconst (v := 0) C.1 C.2.1 dX3_conflict_26 (by decide) ?_
    cases h
    exact k_reti C hw hS dX3_conflict_27
def b_X3_conflict_0 (N : Nat) (M : Mm) : Option (Int32 × Mm) :=
  (f_X3_everyRow N M).bind fun (r3, M3) => (f_X3_infeasible N r3 M3).bind fun (r6, M6) => (if r6 = 0 then b_X3_conflict_17 N 1 M6 else b_X3_conflict_17 N 0 M6)
set_option maxRecDepth 100000 in
set_option maxHeartbeats 4000000 in
theorem t_X3_conflict_0 {θ : Th} {p : Program} {l : Launch} {e : Env} {s : State} {m : MethodId} {args : Array Value} {below : List Frame} {meth : Method} {c : Code} (C : Cx θ p s m args meth c cX3_conflict 4 RX3 (some .int)) (N : Nat) : J_X3_conflict_0 θ p l e s m args below meth c (b_X3_conflict_0 N) := by
  intro M r M1 h H locs ls hl hw hS
  unfold b_X3_conflict_0 at h
  refine lv_aload_n C.1 C.2.1 dX3_conflict_0 rfl (lv_at hl 0 rfl) ?_
  refine lv_aload_n C.1 C.2.1 dX3_conflict_1 rfl (lv_at hl 0 rfl) ?_
  refine lv_aload_n C.1 C.2.1 dX3_conflict_2 rfl (lv_at hl 0 rfl) ?_
  obtain ⟨⟨r3, M3⟩, h3, h⟩ := bind_s h
  dsimp only at h
  refine k_ci (k_runV (As := []) C cf_X3_everyRow cv_X3_everyRow w_625 rc3 (c_X3_everyRow θ l N h3) ⟨rfl, rfl, Nat.le_of_ble_eq_true rfl, Nat.le_of_ble_eq_true rfl⟩ rfl hl.1 rfl (Nat.le_of_ble_eq_true rfl) dX3_conflict_3 ⟨Nat.zero_le _, Nat.zero_le _⟩ hw) hS (fun H locs hw hS => ?_)
  obtain ⟨⟨r6, M6⟩, h6, h⟩ := bind_s h
  dsimp only at h
  refine k_ci (k_runV (As := [.int r3]) C cf_X3_infeasible cv_X3_infeasible w_629 rc3 (c_X3_infeasible θ l N h6) ⟨rfl, rfl, Nat.le_of_ble_eq_true rfl, Nat.le_of_ble_eq_true rfl⟩ rfl hl.1 rfl (Nat.le_of_ble_eq_true rfl) dX3_conflict_6 ⟨Nat.zero_le _, Nat.zero_le _⟩ hw) hS (fun H locs hw hS => ?_)
  refine lv_if_ne (tgt := 16) C.1 C.2.1 dX3_conflict_9 (by decide) (fun c9 => ?_) (fun c9 => ?_)
  · have h := it_f c9 h
    refine lv_iconst (v := 0) C.1 C.2.1 dX3_conflict_16 (by decide) ?_
    exact t_X3_conflict_17 C N _ _ _ _ h _ _ ls (lv_sub hl [0] rfl) hw hS
  · have h := it_t c9 h
    refine lv_iconst (v := 1) C.1 C.2.1 dX3_conflict_12 (by decide) ?_
    refine lv_goto (tgt := 17) C.1 C.2.1 dX3_conflict_13 (by decide) ?_
    exact t_X3_conflict_17 C N _ _ _ _ h _ _ ls (lv_sub hl [0] rfl) hw hS
def f_X3_conflict (N : Nat) (M : Mm) : Option (Int32 × Mm) := b_X3_conflict_0 N M
set_option maxRecDepth 100000 in
theorem c_X3_conflict (θ : Th) (l : Launch) (N : Nat) {M : Mm} {r : Int32} {M1 : Mm} (h : f_X3_conflict N M = some (r, M1)) : Met l yX3_conflict (gws yX3_conflict cX3_conflict 4 (some .int)) rm_X3_conflict (va_Pc [.ref (tad θ 3)] (wU θ M)) (qI θ r M1) 0 0 (tA θ) :=
  k_met (by decide +kernel) (Nat.le_of_ble_eq_true rfl) (fun p e s m args below meth c C ls hl hw => t_X3_conflict_0 C N _ _ _ h _ _ ls (lv_sub hl [0] rfl) hw va_S.rf)
abbrev rm_X3_later : Room := { frames := 1, cells := 0, slots := 0, locals := 27 }
def J_X3_later_0 (θ : Th) (p : Program) (l : Launch) (e : Env) (s : State) (m : MethodId) (args : Array Value) (below : List Frame) (meth : Method) (c : Code) (g : Int32 → Int32 → Mm → Option (Int32 × Mm)) : Prop := ∀ (x1 : Int32) (x2 : Int32) (M : Mm) (r : Int32) (M1 : Mm), g x1 x2 M = some (r, M1) → ∀ (H : Heap) (locs : List Loc) (ls : Array Slot), lv_has ls 3 [(0, .ref (tad θ 3)), (1, .int x1), (2, .int x2)] → wd θ M H → va_S (tA θ) s.heap H locs → W p l e rm_X3_later s m args below meth c H locs 0 0 (MQ below (qI θ r M1) args s 0 0 (tA θ)) (F0 m 0 ls [])
def b_X3_later_0 (N : Nat) (x1 : Int32) (x2 : Int32) (M : Mm) : Option (Int32 × Mm) :=
  (rL M 2 ((5 * x1) + (M.1 4))).bind fun v12 => (rL M 3 x1).bind fun v18 => (rL M 2 ((5 * x2) + (M.1 4))).bind fun v31 => (rL M 3 x2).bind fun v37 => (f_X3_compare N v12 v18 v31 v37 M).bind fun (r38, M38) => some (r38, M38)
set_option maxRecDepth 100000 in
set_option maxHeartbeats 4000000 in
theorem t_X3_later_0 {θ : Th} {p : Program} {l : Launch} {e : Env} {s : State} {m : MethodId} {args : Array Value} {below : List Frame} {meth : Method} {c : Code} (C : Cx θ p s m args meth c cX3_later 3 RX3 (some .int)) (N : Nat) : J_X3_later_0 θ p l e s m args below meth c (b_X3_later_0 N) := by
  intro x1 x2 M r M1 h H locs ls hl hw hS
  unfold b_X3_later_0 at h
  refine lv_aload_n C.1 C.2.1 dX3_later_0 rfl (lv_at hl 0 rfl) ?_
  refine gf_X3_above C hw w_540 dX3_later_1 ?_
  refine lv_iconst (v := 5) C.1 C.2.1 dX3_later_4 (by decide) ?_
  refine lv_iload_n C.1 C.2.1 dX3_later_5 rfl (lv_at hl 1 rfl) ?_
  refine lv_imul C.1 C.2.1 dX3_later_6 ?_
  refine lv_aload_n C.1 C.2.1 dX3_later_7 rfl (lv_at hl 0 rfl) ?_
  refine gf_X3_n C hw w_525 dX3_later_8 ?_
  refine lv_iadd C.1 C.2.1 dX3_later_11 ?_
  obtain ⟨v12, h12, h⟩ := bind_s h
  refine k_lald C hw 2 h12 dX3_later_12 ?_
  refine lv_aload_n C.1 C.2.1 dX3_later_13 rfl (lv_at hl 0 rfl) ?_
  refine gf_X3_below C hw w_541 dX3_later_14 ?_
  refine lv_iload_n C.1 C.2.1 dX3_later_17 rfl (lv_at hl 1 rfl) ?_
  obtain ⟨v18, h18, h⟩ := bind_s h
  refine k_lald C hw 3 h18 dX3_later_18 ?_
  refine lv_aload_n C.1 C.2.1 dX3_later_19 rfl (lv_at hl 0 rfl) ?_
  refine gf_X3_above C hw w_540 dX3_later_20 ?_
  refine lv_iconst (v := 5) C.1 C.2.1 dX3_later_23 (by decide) ?_
  refine lv_iload_n C.1 C.2.1 dX3_later_24 rfl (lv_at hl 2 rfl) ?_
  refine lv_imul C.1 C.2.1 dX3_later_25 ?_
  refine lv_aload_n C.1 C.2.1 dX3_later_26 rfl (lv_at hl 0 rfl) ?_
  refine gf_X3_n C hw w_525 dX3_later_27 ?_
  refine lv_iadd C.1 C.2.1 dX3_later_30 ?_
  obtain ⟨v31, h31, h⟩ := bind_s h
  refine k_lald C hw 2 h31 dX3_later_31 ?_
  refine lv_aload_n C.1 C.2.1 dX3_later_32 rfl (lv_at hl 0 rfl) ?_
  refine gf_X3_below C hw w_541 dX3_later_33 ?_
  refine lv_iload_n C.1 C.2.1 dX3_later_36 rfl (lv_at hl 2 rfl) ?_
  obtain ⟨v37, h37, h⟩ := bind_s h
  refine k_lald C hw 3 h37 dX3_later_37 ?_
  obtain ⟨⟨r38, M38⟩, h38, h⟩ := bind_s h
  dsimp only at h
  refine k_ci (k_runS (As := [.long v12, .long v18, .long v31, .long v37]) C cf_X3_compare cs_X3_compare w_686 (c_X3_compare θ l N h38) ⟨rfl, rfl, Nat.le_of_ble_eq_true rfl, Nat.le_of_ble_eq_true rfl⟩ rfl hl.1 rfl (Nat.le_of_ble_eq_true rfl) dX3_later_38 ⟨Nat.zero_le _, Nat.zero_le _⟩ hw) hS (fun H locs hw hS => ?_)
  cases h
  exact k_reti C hw hS dX3_later_41
def f_X3_later (N : Nat) (x1 : Int32) (x2 : Int32) (M : Mm) : Option (Int32 × Mm) := b_X3_later_0 N x1 x2 M
set_option maxRecDepth 100000 in
theorem c_X3_later (θ : Th) (l : Launch) (N : Nat) {x1 : Int32} {x2 : Int32} {M : Mm} {r : Int32} {M1 : Mm} (h : f_X3_later N x1 x2 M = some (r, M1)) : Met l yX3_later (gws yX3_later cX3_later 3 (some .int)) rm_X3_later (va_Pc [.ref (tad θ 3), .int x1, .int x2] (wU θ M)) (qI θ r M1) 0 0 (tA θ) :=
  k_met (by decide +kernel) (Nat.le_of_ble_eq_true rfl) (fun p e s m args below meth c C ls hl hw => t_X3_later_0 C N _ _ _ _ _ h _ _ ls (lv_sub hl [0, 1, 2] rfl) hw va_S.rf)
abbrev rm_X3_steeper : Room := { frames := 2, cells := 0, slots := 0, locals := 49 }
def J_X3_steeper_0 (θ : Th) (p : Program) (l : Launch) (e : Env) (s : State) (m : MethodId) (args : Array Value) (below : List Frame) (meth : Method) (c : Code) (g : Int32 → Int32 → Int32 → Mm → Option (Int32 × Mm)) : Prop := ∀ (x1 : Int32) (x2 : Int32) (x3 : Int32) (M : Mm) (r : Int32) (M1 : Mm), g x1 x2 x3 M = some (r, M1) → ∀ (H : Heap) (locs : List Loc) (ls : Array Slot), lv_has ls 13 [(0, .ref (tad θ 3)), (1, .int x1), (2, .int x2), (3, .int x3)] → wd θ M H → va_S (tA θ) s.heap H locs → W p l e rm_X3_steeper s m args below meth c H locs 0 0 (MQ below (qI θ r M1) args s 0 0 (tA θ)) (F0 m 0 ls [])
def b_X3_steeper_0 (N : Nat) (x1 : Int32) (x2 : Int32) (x3 : Int32) (M : Mm) : Option (Int32 × Mm) :=
  (rL M 4 x2).bind fun v5 => (rL M 3 x1).bind fun v11 => (rL M 4 x1).bind fun v18 => (rL M 3 x2).bind fun v24 => (rL M 2 ((5 * x2) + (M.1 4))).bind fun v41 => (rL M 3 x1).bind fun v47 => (rL M 2 ((5 * x1) + (M.1 4))).bind fun v61 => (rL M 3 x2).bind fun v67 => (rL M 4 x3).bind fun v77 => (rL M 3 x1).bind fun v83 => (rL M 4 x1).bind fun v90 => (rL M 3 x3).bind fun v96 => (rL M 2 ((5 * x3) + (M.1 4))).bind fun v113 => (rL M 3 x1).bind fun v119 => (rL M 2 ((5 * x1) + (M.1 4))).bind fun v133 => (rL M 3 x3).bind fun v139 => (f_X3_compare N ((v5 * v11) - (v18 * v24)) ((v41 * v47) - (v61 * v67)) ((v77 * v83) - (v90 * v96)) ((v113 * v119) - (v133 * v139)) M).bind fun (r152, M152) => (if 0 < r152 then some (1, M152) else (if r152 = 0 then (f_X3_later N x2 x3 M152).bind fun (r170, M170) => (if r170 ≤ 0 then some (0, M170) else some (1, M170)) else some (0, M152)))
set_option maxRecDepth 100000 in
set_option maxHeartbeats 4000000 in
theorem t_X3_steeper_0 {θ : Th} {p : Program} {l : Launch} {e : Env} {s : State} {m : MethodId} {args : Array Value} {below : List Frame} {meth : Method} {c : Code} (C : Cx θ p s m args meth c cX3_steeper 13 RX3 (some .boolean)) (N : Nat) : J_X3_steeper_0 θ p l e s m args below meth c (b_X3_steeper_0 N) := by
  intro x1 x2 x3 M r M1 h H locs ls hl hw hS
  unfold b_X3_steeper_0 at h
  refine lv_aload_n C.1 C.2.1 dX3_steeper_0 rfl (lv_at hl 0 rfl) ?_
  refine gf_X3_worth C hw w_542 dX3_steeper_1 ?_
  refine lv_iload_n C.1 C.2.1 dX3_steeper_4 rfl (lv_at hl 2 rfl) ?_
  obtain ⟨v5, h5, h⟩ := bind_s h
  refine k_lald C hw 4 h5 dX3_steeper_5 ?_
  refine lv_aload_n C.1 C.2.1 dX3_steeper_6 rfl (lv_at hl 0 rfl) ?_
  refine gf_X3_below C hw w_541 dX3_steeper_7 ?_
  refine lv_iload_n C.1 C.2.1 dX3_steeper_10 rfl (lv_at hl 1 rfl) ?_
  obtain ⟨v11, h11, h⟩ := bind_s h
  refine k_lald C hw 3 h11 dX3_steeper_11 ?_
  refine lv_lmul C.1 C.2.1 dX3_steeper_12 ?_
  refine lv_aload_n C.1 C.2.1 dX3_steeper_13 rfl (lv_at hl 0 rfl) ?_
  refine gf_X3_worth C hw w_542 dX3_steeper_14 ?_
  refine lv_iload_n C.1 C.2.1 dX3_steeper_17 rfl (lv_at hl 1 rfl) ?_
  obtain ⟨v18, h18, h⟩ := bind_s h
  refine k_lald C hw 4 h18 dX3_steeper_18 ?_
  refine lv_aload_n C.1 C.2.1 dX3_steeper_19 rfl (lv_at hl 0 rfl) ?_
  refine gf_X3_below C hw w_541 dX3_steeper_20 ?_
  refine lv_iload_n C.1 C.2.1 dX3_steeper_23 rfl (lv_at hl 2 rfl) ?_
  obtain ⟨v24, h24, h⟩ := bind_s h
  refine k_lald C hw 3 h24 dX3_steeper_24 ?_
  refine lv_lmul C.1 C.2.1 dX3_steeper_25 ?_
  refine lv_lsub C.1 C.2.1 dX3_steeper_26 ?_
  refine lv_lstore (lv' := [(4, .long ((v5 * v11) - (v18 * v24))), (0, .ref (tad θ 3)), (1, .int x1), (2, .int x2), (3, .int x3)]) C.1 C.2.1 dX3_steeper_27 hl (by decide) rfl (fun ls hl => ?_)
  refine lv_aload_n C.1 C.2.1 dX3_steeper_29 rfl (lv_at hl 1 rfl) ?_
  refine gf_X3_above C hw w_540 dX3_steeper_30 ?_
  refine lv_iconst (v := 5) C.1 C.2.1 dX3_steeper_33 (by decide) ?_
  refine lv_iload_n C.1 C.2.1 dX3_steeper_34 rfl (lv_at hl 3 rfl) ?_
  refine lv_imul C.1 C.2.1 dX3_steeper_35 ?_
  refine lv_aload_n C.1 C.2.1 dX3_steeper_36 rfl (lv_at hl 1 rfl) ?_
  refine gf_X3_n C hw w_525 dX3_steeper_37 ?_
  refine lv_iadd C.1 C.2.1 dX3_steeper_40 ?_
  obtain ⟨v41, h41, h⟩ := bind_s h
  refine k_lald C hw 2 h41 dX3_steeper_41 ?_
  refine lv_aload_n C.1 C.2.1 dX3_steeper_42 rfl (lv_at hl 1 rfl) ?_
  refine gf_X3_below C hw w_541 dX3_steeper_43 ?_
  refine lv_iload_n C.1 C.2.1 dX3_steeper_46 rfl (lv_at hl 2 rfl) ?_
  obtain ⟨v47, h47, h⟩ := bind_s h
  refine k_lald C hw 3 h47 dX3_steeper_47 ?_
  refine lv_lmul C.1 C.2.1 dX3_steeper_48 ?_
  refine lv_aload_n C.1 C.2.1 dX3_steeper_49 rfl (lv_at hl 1 rfl) ?_
  refine gf_X3_above C hw w_540 dX3_steeper_50 ?_
  refine lv_iconst (v := 5) C.1 C.2.1 dX3_steeper_53 (by decide) ?_
  refine lv_iload_n C.1 C.2.1 dX3_steeper_54 rfl (lv_at hl 2 rfl) ?_
  refine lv_imul C.1 C.2.1 dX3_steeper_55 ?_
  refine lv_aload_n C.1 C.2.1 dX3_steeper_56 rfl (lv_at hl 1 rfl) ?_
  refine gf_X3_n C hw w_525 dX3_steeper_57 ?_
  refine lv_iadd C.1 C.2.1 dX3_steeper_60 ?_
  obtain ⟨v61, h61, h⟩ := bind_s h
  refine k_lald C hw 2 h61 dX3_steeper_61 ?_
  refine lv_aload_n C.1 C.2.1 dX3_steeper_62 rfl (lv_at hl 1 rfl) ?_
  refine gf_X3_below C hw w_541 dX3_steeper_63 ?_
  refine lv_iload_n C.1 C.2.1 dX3_steeper_66 rfl (lv_at hl 3 rfl) ?_
  obtain ⟨v67, h67, h⟩ := bind_s h
  refine k_lald C hw 3 h67 dX3_steeper_67 ?_
  refine lv_lmul C.1 C.2.1 dX3_steeper_68 ?_
  refine lv_lsub C.1 C.2.1 dX3_steeper_69 ?_
  refine lv_lstore (lv' := [(6, .long ((v41 * v47) - (v61 * v67))), (4, .long ((v5 * v11) - (v18 * v24))), (0, .ref (tad θ 3)), (1, .int x1), (2, .int x2), (3, .int x3)]) C.1 C.2.1 dX3_steeper_70 hl (by decide) rfl (fun ls hl => ?_)
  refine lv_aload_n C.1 C.2.1 dX3_steeper_72 rfl (lv_at hl 2 rfl) ?_
  refine gf_X3_worth C hw w_542 dX3_steeper_73 ?_
  refine lv_iload_n C.1 C.2.1 dX3_steeper_76 rfl (lv_at hl 5 rfl) ?_
  obtain ⟨v77, h77, h⟩ := bind_s h
  refine k_lald C hw 4 h77 dX3_steeper_77 ?_
  refine lv_aload_n C.1 C.2.1 dX3_steeper_78 rfl (lv_at hl 2 rfl) ?_
  refine gf_X3_below C hw w_541 dX3_steeper_79 ?_
  refine lv_iload_n C.1 C.2.1 dX3_steeper_82 rfl (lv_at hl 3 rfl) ?_
  obtain ⟨v83, h83, h⟩ := bind_s h
  refine k_lald C hw 3 h83 dX3_steeper_83 ?_
  refine lv_lmul C.1 C.2.1 dX3_steeper_84 ?_
  refine lv_aload_n C.1 C.2.1 dX3_steeper_85 rfl (lv_at hl 2 rfl) ?_
  refine gf_X3_worth C hw w_542 dX3_steeper_86 ?_
  refine lv_iload_n C.1 C.2.1 dX3_steeper_89 rfl (lv_at hl 3 rfl) ?_
  obtain ⟨v90, h90, h⟩ := bind_s h
  refine k_lald C hw 4 h90 dX3_steeper_90 ?_
  refine lv_aload_n C.1 C.2.1 dX3_steeper_91 rfl (lv_at hl 2 rfl) ?_
  refine gf_X3_below C hw w_541 dX3_steeper_92 ?_
  refine lv_iload_n C.1 C.2.1 dX3_steeper_95 rfl (lv_at hl 5 rfl) ?_
  obtain ⟨v96, h96, h⟩ := bind_s h
  refine k_lald C hw 3 h96 dX3_steeper_96 ?_
  refine lv_lmul C.1 C.2.1 dX3_steeper_97 ?_
  refine lv_lsub C.1 C.2.1 dX3_steeper_98 ?_
  refine lv_lstore (lv' := [(8, .long ((v77 * v83) - (v90 * v96))), (6, .long ((v41 * v47) - (v61 * v67))), (4, .long ((v5 * v11) - (v18 * v24))), (0, .ref (tad θ 3)), (1, .int x1), (2, .int x2), (3, .int x3)]) C.1 C.2.1 dX3_steeper_99 hl (by decide) rfl (fun ls hl => ?_)
  refine lv_aload_n C.1 C.2.1 dX3_steeper_101 rfl (lv_at hl 3 rfl) ?_
  refine gf_X3_above C hw w_540 dX3_steeper_102 ?_
  refine lv_iconst (v := 5) C.1 C.2.1 dX3_steeper_105 (by decide) ?_
  refine lv_iload_n C.1 C.2.1 dX3_steeper_106 rfl (lv_at hl 6 rfl) ?_
  refine lv_imul C.1 C.2.1 dX3_steeper_107 ?_
  refine lv_aload_n C.1 C.2.1 dX3_steeper_108 rfl (lv_at hl 3 rfl) ?_
  refine gf_X3_n C hw w_525 dX3_steeper_109 ?_
  refine lv_iadd C.1 C.2.1 dX3_steeper_112 ?_
  obtain ⟨v113, h113, h⟩ := bind_s h
  refine k_lald C hw 2 h113 dX3_steeper_113 ?_
  refine lv_aload_n C.1 C.2.1 dX3_steeper_114 rfl (lv_at hl 3 rfl) ?_
  refine gf_X3_below C hw w_541 dX3_steeper_115 ?_
  refine lv_iload_n C.1 C.2.1 dX3_steeper_118 rfl (lv_at hl 4 rfl) ?_
  obtain ⟨v119, h119, h⟩ := bind_s h
  refine k_lald C hw 3 h119 dX3_steeper_119 ?_
  refine lv_lmul C.1 C.2.1 dX3_steeper_120 ?_
  refine lv_aload_n C.1 C.2.1 dX3_steeper_121 rfl (lv_at hl 3 rfl) ?_
  refine gf_X3_above C hw w_540 dX3_steeper_122 ?_
  refine lv_iconst (v := 5) C.1 C.2.1 dX3_steeper_125 (by decide) ?_
  refine lv_iload_n C.1 C.2.1 dX3_steeper_126 rfl (lv_at hl 4 rfl) ?_
  refine lv_imul C.1 C.2.1 dX3_steeper_127 ?_
  refine lv_aload_n C.1 C.2.1 dX3_steeper_128 rfl (lv_at hl 3 rfl) ?_
  refine gf_X3_n C hw w_525 dX3_steeper_129 ?_
  refine lv_iadd C.1 C.2.1 dX3_steeper_132 ?_
  obtain ⟨v133, h133, h⟩ := bind_s h
  refine k_lald C hw 2 h133 dX3_steeper_133 ?_
  refine lv_aload_n C.1 C.2.1 dX3_steeper_134 rfl (lv_at hl 3 rfl) ?_
  refine gf_X3_below C hw w_541 dX3_steeper_135 ?_
  refine lv_iload_n C.1 C.2.1 dX3_steeper_138 rfl (lv_at hl 6 rfl) ?_
  obtain ⟨v139, h139, h⟩ := bind_s h
  refine k_lald C hw 3 h139 dX3_steeper_139 ?_
  refine lv_lmul C.1 C.2.1 dX3_steeper_140 ?_
  refine lv_lsub C.1 C.2.1 dX3_steeper_141 ?_
  refine lv_lstore (lv' := [(10, .long ((v113 * v119) - (v133 * v139))), (8, .long ((v77 * v83) - (v90 * v96))), (6, .long ((v41 * v47) - (v61 * v67))), (4, .long ((v5 * v11) - (v18 * v24))), (0, .ref (tad θ 3)), (1, .int x1), (2, .int x2), (3, .int x3)]) C.1 C.2.1 dX3_steeper_142 hl (by decide) rfl (fun ls hl => ?_)
  refine lv_lload C.1 C.2.1 dX3_steeper_144 (lv_at hl 3 rfl) ?_
  refine lv_lload C.1 C.2.1 dX3_steeper_146 (lv_at hl 2 rfl) ?_
  refine lv_lload C.1 C.2.1 dX3_steeper_148 (lv_at hl 1 rfl) ?_
  refine lv_lload C.1 C.2.1 dX3_steeper_150 (lv_at hl 0 rfl) ?_
  obtain ⟨⟨r152, M152⟩, h152, h⟩ := bind_s h
  dsimp only at h
  refine k_ci (k_runS (As := [.long ((v5 * v11) - (v18 * v24)), .long ((v41 * v47) - (v61 * v67)), .long ((v77 * v83) - (v90 * v96)), .long ((v113 * v119) - (v133 * v139))]) C cf_X3_compare cs_X3_compare w_686 (c_X3_compare θ l N h152) ⟨rfl, rfl, Nat.le_of_ble_eq_true rfl, Nat.le_of_ble_eq_true rfl⟩ rfl hl.1 rfl (Nat.le_of_ble_eq_true rfl) dX3_steeper_152 ⟨Nat.zero_le _, Nat.zero_le _⟩ hw) hS (fun H locs hw hS => ?_)
  refine lv_istore (lv' := [(12, .int r152), (10, .long ((v113 * v119) - (v133 * v139))), (8, .long ((v77 * v83) - (v90 * v96))), (6, .long ((v41 * v47) - (v61 * v67))), (4, .long ((v5 * v11) - (v18 * v24))), (0, .ref (tad θ 3)), (1, .int x1), (2, .int x2), (3, .int x3)]) C.1 C.2.1 dX3_steeper_155 hl (by decide) rfl (fun ls hl => ?_)
  refine lv_iload C.1 C.2.1 dX3_steeper_157 (lv_at hl 0 rfl) ?_
  refine lv_if_gt (tgt := 176) C.1 C.2.1 dX3_steeper_159 (by decide) (fun c159 => ?_) (fun c159 => ?_)
  · have h := it_t c159 h
    refine lv_iconst (v := 1) C.1 C.2.1 dX3_steeper_176 (by decide) ?_
    refine lv_goto (tgt := 181) C.1 C.2.1 dX3_steeper_177 (by decide) ?_
    cases h
    exact k_retz C hw hS (Or.inr rfl) dX3_steeper_181
  · have h := it_f c159 h
    refine lv_iload C.1 C.2.1 dX3_steeper_162 (lv_at hl 0 rfl) ?_
    refine lv_if_ne (tgt := 180) C.1 C.2.1 dX3_steeper_164 (by decide) (fun c164 => ?_) (fun c164 => ?_)
    · have h := it_f c164 h
      refine lv_iconst (v := 0) C.1 C.2.1 dX3_steeper_180 (by decide) ?_
      cases h
      exact k_retz C hw hS (Or.inl rfl) dX3_steeper_181
    · have h := it_t c164 h
      refine lv_aload_n C.1 C.2.1 dX3_steeper_167 rfl (lv_at hl 5 rfl) ?_
      refine lv_iload_n C.1 C.2.1 dX3_steeper_168 rfl (lv_at hl 7 rfl) ?_
      refine lv_iload_n C.1 C.2.1 dX3_steeper_169 rfl (lv_at hl 8 rfl) ?_
      obtain ⟨⟨r170, M170⟩, h170, h⟩ := bind_s h
      dsimp only at h
      refine k_ci (k_runV (As := [.int x2, .int x3]) C cf_X3_later cv_X3_later w_727 rc3 (c_X3_later θ l N h170) ⟨rfl, rfl, Nat.le_of_ble_eq_true rfl, Nat.le_of_ble_eq_true rfl⟩ rfl hl.1 rfl (Nat.le_of_ble_eq_true rfl) dX3_steeper_170 ⟨Nat.zero_le _, Nat.zero_le _⟩ hw) hS (fun H locs hw hS => ?_)
      refine lv_if_le (tgt := 180) C.1 C.2.1 dX3_steeper_173 (by decide) (fun c173 => ?_) (fun c173 => ?_)
      · have h := it_t c173 h
        refine lv_iconst (v := 0) C.1 C.2.1 dX3_steeper_180 (by decide) ?_
        cases h
        exact k_retz C hw hS (Or.inl rfl) dX3_steeper_181
      · have h := it_f c173 h
        refine lv_iconst (v := 1) C.1 C.2.1 dX3_steeper_176 (by decide) ?_
        refine lv_goto (tgt := 181) C.1 C.2.1 dX3_steeper_177 (by decide) ?_
        cases h
        exact k_retz C hw hS (Or.inr rfl) dX3_steeper_181
def f_X3_steeper (N : Nat) (x1 : Int32) (x2 : Int32) (x3 : Int32) (M : Mm) : Option (Int32 × Mm) := b_X3_steeper_0 N x1 x2 x3 M
set_option maxRecDepth 100000 in
theorem c_X3_steeper (θ : Th) (l : Launch) (N : Nat) {x1 : Int32} {x2 : Int32} {x3 : Int32} {M : Mm} {r : Int32} {M1 : Mm} (h : f_X3_steeper N x1 x2 x3 M = some (r, M1)) : Met l yX3_steeper (gws yX3_steeper cX3_steeper 13 (some .boolean)) rm_X3_steeper (va_Pc [.ref (tad θ 3), .int x1, .int x2, .int x3] (wU θ M)) (qI θ r M1) 0 0 (tA θ) :=
  k_met (by decide +kernel) (Nat.le_of_ble_eq_true rfl) (fun p e s m args below meth c C ls hl hw => t_X3_steeper_0 C N _ _ _ _ _ _ h _ _ ls (lv_sub hl [0, 1, 2, 3] rfl) hw va_S.rf)
abbrev rm_X3_findCorners : Room := { frames := 5, cells := 0, slots := 0, locals := 125 }
def J_X3_findCorners_156 (θ : Th) (p : Program) (l : Launch) (e : Env) (s : State) (m : MethodId) (args : Array Value) (below : List Frame) (meth : Method) (c : Code) (g : Int32 → Int32 → Int32 → Int32 → Mm → Option Mm) : Prop := ∀ (x2 : Int32) (x3 : Int32) (x4 : Int32) (s0 : Int32) (M : Mm) (M1 : Mm), g x2 x3 x4 s0 M = some M1 → ∀ (H : Heap) (locs : List Loc) (ls : Array Slot), lv_has ls 6 [(0, .ref (tad θ 3)), (2, .int x2), (3, .int x3), (4, .int x4)] → wd θ M H → va_S (tA θ) s.heap H locs → W p l e rm_X3_findCorners s m args below meth c H locs 0 0 (MQ below (qV θ M1) args s 0 0 (tA θ)) (F0 m 156 ls [.int s0])
def J_X3_findCorners_132 (θ : Th) (p : Program) (l : Launch) (e : Env) (s : State) (m : MethodId) (args : Array Value) (below : List Frame) (meth : Method) (c : Code) (g : Int32 → Int32 → Int32 → Mm → Option Mm) : Prop := ∀ (x2 : Int32) (x3 : Int32) (x4 : Int32) (M : Mm) (M1 : Mm), g x2 x3 x4 M = some M1 → ∀ (H : Heap) (locs : List Loc) (ls : Array Slot), lv_has ls 6 [(0, .ref (tad θ 3)), (2, .int x2), (3, .int x3), (4, .int x4)] → wd θ M H → va_S (tA θ) s.heap H locs → W p l e rm_X3_findCorners s m args below meth c H locs 0 0 (MQ below (qV θ M1) args s 0 0 (tA θ)) (F0 m 132 ls [])
def J_X3_findCorners_103 (θ : Th) (p : Program) (l : Launch) (e : Env) (s : State) (m : MethodId) (args : Array Value) (below : List Frame) (meth : Method) (c : Code) (g : Int32 → Mm → Option Mm) : Prop := ∀ (x2 : Int32) (M : Mm) (M1 : Mm), g x2 M = some M1 → ∀ (H : Heap) (locs : List Loc) (ls : Array Slot), lv_has ls 6 [(0, .ref (tad θ 3)), (2, .int x2)] → wd θ M H → va_S (tA θ) s.heap H locs → W p l e rm_X3_findCorners s m args below meth c H locs 0 0 (MQ below (qV θ M1) args s 0 0 (tA θ)) (F0 m 103 ls [])
def J_X3_findCorners_35 (θ : Th) (p : Program) (l : Launch) (e : Env) (s : State) (m : MethodId) (args : Array Value) (below : List Frame) (meth : Method) (c : Code) (g : Int32 → Int32 → Mm → Option Mm) : Prop := ∀ (x2 : Int32) (x3 : Int32) (M : Mm) (M1 : Mm), g x2 x3 M = some M1 → ∀ (H : Heap) (locs : List Loc) (ls : Array Slot), lv_has ls 6 [(0, .ref (tad θ 3)), (2, .int x2), (3, .int x3)] → wd θ M H → va_S (tA θ) s.heap H locs → W p l e rm_X3_findCorners s m args below meth c H locs 0 0 (MQ below (qV θ M1) args s 0 0 (tA θ)) (F0 m 35 ls [])
def J_X3_findCorners_0 (θ : Th) (p : Program) (l : Launch) (e : Env) (s : State) (m : MethodId) (args : Array Value) (below : List Frame) (meth : Method) (c : Code) (g : Mm → Option Mm) : Prop := ∀ (M : Mm) (M1 : Mm), g M = some M1 → ∀ (H : Heap) (locs : List Loc) (ls : Array Slot), lv_has ls 6 [(0, .ref (tad θ 3))] → wd θ M H → va_S (tA θ) s.heap H locs → W p l e rm_X3_findCorners s m args below meth c H locs 0 0 (MQ below (qV θ M1) args s 0 0 (tA θ)) (F0 m 0 ls [])
def b_X3_findCorners_156 (N : Nat) (k103 : Int32 → Mm → Option Mm) (k132 : Int32 → Int32 → Int32 → Mm → Option Mm) (x2 : Int32) (x3 : Int32) (x4 : Int32) (s0 : Int32) (M : Mm) : Option Mm :=
  (if s0 = 0 then k132 x2 x3 (x4 + 1) M else (if x3 < 0 then k132 x2 x4 (x4 + 1) M else (f_X3_steeper N x2 x4 x3 M).bind fun (r172, M172) => (if r172 = 0 then k132 x2 x3 (x4 + 1) M172 else k132 x2 x4 (x4 + 1) M172)))
set_option maxRecDepth 100000 in
set_option maxHeartbeats 4000000 in
theorem t_X3_findCorners_156 {θ : Th} {p : Program} {l : Launch} {e : Env} {s : State} {m : MethodId} {args : Array Value} {below : List Frame} {meth : Method} {c : Code} (C : Cx θ p s m args meth c cX3_findCorners 6 RX3 none) (N : Nat) {k103 : Int32 → Mm → Option Mm} (hk103 : J_X3_findCorners_103 θ p l e s m args below meth c k103) {k132 : Int32 → Int32 → Int32 → Mm → Option Mm} (hk132 : J_X3_findCorners_132 θ p l e s m args below meth c k132) : J_X3_findCorners_156 θ p l e s m args below meth c (b_X3_findCorners_156 N k103 k132) := by
  intro x2 x3 x4 s0 M M1 h H locs ls hl hw hS
  unfold b_X3_findCorners_156 at h
  refine lv_istore (lv' := [(5, .int s0), (0, .ref (tad θ 3)), (2, .int x2), (3, .int x3), (4, .int x4)]) C.1 C.2.1 dX3_findCorners_156 hl (by decide) rfl (fun ls hl => ?_)
  refine lv_iload C.1 C.2.1 dX3_findCorners_158 (lv_at hl 0 rfl) ?_
  refine lv_if_eq (tgt := 183) C.1 C.2.1 dX3_findCorners_160 (by decide) (fun c160 => ?_) (fun c160 => ?_)
  · have h := it_t c160 h
    refine lv_iload_n C.1 C.2.1 dX3_findCorners_183 rfl (lv_at hl 3 rfl) ?_
    refine lv_istore_n (lv' := [(3, .int x3), (5, .int s0), (0, .ref (tad θ 3)), (2, .int x2), (4, .int x4)]) C.1 C.2.1 dX3_findCorners_184 rfl hl (by decide) rfl (fun ls hl => ?_)
    refine lv_iinc (v := (x4 + 1)) (lv' := [(4, .int (x4 + 1)), (3, .int x3), (5, .int s0), (0, .ref (tad θ 3)), (2, .int x2)]) C.1 C.2.1 dX3_findCorners_185 hl (k := 4) rfl rfl (by decide) rfl (fun ls hl => ?_)
    refine lv_goto (tgt := 132) C.1 C.2.1 dX3_findCorners_188 (by decide) ?_
    exact hk132 _ _ _ _ _ h _ _ ls (lv_sub hl [3, 4, 1, 0] rfl) hw hS
  · have h := it_f c160 h
    refine lv_iload_n C.1 C.2.1 dX3_findCorners_163 rfl (lv_at hl 3 rfl) ?_
    refine lv_if_lt (tgt := 178) C.1 C.2.1 dX3_findCorners_164 (by decide) (fun c164 => ?_) (fun c164 => ?_)
    · have h := it_t c164 h
      refine lv_iload C.1 C.2.1 dX3_findCorners_178 (lv_at hl 4 rfl) ?_
      refine lv_goto (tgt := 184) C.1 C.2.1 dX3_findCorners_180 (by decide) ?_
      refine lv_istore_n (lv' := [(3, .int x4), (5, .int s0), (0, .ref (tad θ 3)), (2, .int x2), (4, .int x4)]) C.1 C.2.1 dX3_findCorners_184 rfl hl (by decide) rfl (fun ls hl => ?_)
      refine lv_iinc (v := (x4 + 1)) (lv' := [(4, .int (x4 + 1)), (3, .int x4), (5, .int s0), (0, .ref (tad θ 3)), (2, .int x2)]) C.1 C.2.1 dX3_findCorners_185 hl (k := 4) rfl rfl (by decide) rfl (fun ls hl => ?_)
      refine lv_goto (tgt := 132) C.1 C.2.1 dX3_findCorners_188 (by decide) ?_
      exact hk132 _ _ _ _ _ h _ _ ls (lv_sub hl [3, 4, 1, 0] rfl) hw hS
    · have h := it_f c164 h
      refine lv_aload_n C.1 C.2.1 dX3_findCorners_167 rfl (lv_at hl 1 rfl) ?_
      refine lv_iload_n C.1 C.2.1 dX3_findCorners_168 rfl (lv_at hl 2 rfl) ?_
      refine lv_iload C.1 C.2.1 dX3_findCorners_169 (lv_at hl 4 rfl) ?_
      refine lv_iload_n C.1 C.2.1 dX3_findCorners_171 rfl (lv_at hl 3 rfl) ?_
      obtain ⟨⟨r172, M172⟩, h172, h⟩ := bind_s h
      dsimp only at h
      refine k_ci (k_runV (As := [.int x2, .int x4, .int x3]) C cf_X3_steeper cv_X3_steeper w_731 rc3 (c_X3_steeper θ l N h172) ⟨rfl, rfl, Nat.le_of_ble_eq_true rfl, Nat.le_of_ble_eq_true rfl⟩ rfl hl.1 rfl (Nat.le_of_ble_eq_true rfl) dX3_findCorners_172 ⟨Nat.zero_le _, Nat.zero_le _⟩ hw) hS (fun H locs hw hS => ?_)
      refine lv_if_eq (tgt := 183) C.1 C.2.1 dX3_findCorners_175 (by decide) (fun c175 => ?_) (fun c175 => ?_)
      · have h := it_t c175 h
        refine lv_iload_n C.1 C.2.1 dX3_findCorners_183 rfl (lv_at hl 3 rfl) ?_
        refine lv_istore_n (lv' := [(3, .int x3), (5, .int s0), (0, .ref (tad θ 3)), (2, .int x2), (4, .int x4)]) C.1 C.2.1 dX3_findCorners_184 rfl hl (by decide) rfl (fun ls hl => ?_)
        refine lv_iinc (v := (x4 + 1)) (lv' := [(4, .int (x4 + 1)), (3, .int x3), (5, .int s0), (0, .ref (tad θ 3)), (2, .int x2)]) C.1 C.2.1 dX3_findCorners_185 hl (k := 4) rfl rfl (by decide) rfl (fun ls hl => ?_)
        refine lv_goto (tgt := 132) C.1 C.2.1 dX3_findCorners_188 (by decide) ?_
        exact hk132 _ _ _ _ _ h _ _ ls (lv_sub hl [3, 4, 1, 0] rfl) hw hS
      · have h := it_f c175 h
        refine lv_iload C.1 C.2.1 dX3_findCorners_178 (lv_at hl 4 rfl) ?_
        refine lv_goto (tgt := 184) C.1 C.2.1 dX3_findCorners_180 (by decide) ?_
        refine lv_istore_n (lv' := [(3, .int x4), (5, .int s0), (0, .ref (tad θ 3)), (2, .int x2), (4, .int x4)]) C.1 C.2.1 dX3_findCorners_184 rfl hl (by decide) rfl (fun ls hl => ?_)
        refine lv_iinc (v := (x4 + 1)) (lv' := [(4, .int (x4 + 1)), (3, .int x4), (5, .int s0), (0, .ref (tad θ 3)), (2, .int x2)]) C.1 C.2.1 dX3_findCorners_185 hl (k := 4) rfl rfl (by decide) rfl (fun ls hl => ?_)
        refine lv_goto (tgt := 132) C.1 C.2.1 dX3_findCorners_188 (by decide) ?_
        exact hk132 _ _ _ _ _ h _ _ ls (lv_sub hl [3, 4, 1, 0] rfl) hw hS
def F_X3_findCorners_132 (N : Nat) (k103 : Int32 → Mm → Option Mm) (k132 : Int32 → Int32 → Int32 → Mm → Option Mm) (x2 : Int32) (x3 : Int32) (x4 : Int32) (M : Mm) : Option Mm :=
  (if (M.1 9) ≤ x4 then k103 x3 M else (f_X3_later N x4 x2 M).bind fun (r145, M145) => (if r145 ≤ 0 then b_X3_findCorners_156 N k103 k132 x2 x3 x4 0 M145 else b_X3_findCorners_156 N k103 k132 x2 x3 x4 1 M145))
abbrev b_X3_findCorners_132 (N : Nat) (k103 : Int32 → Mm → Option Mm) : Int32 → Int32 → Int32 → Mm → Option Mm := lpT (fun _ _ _ _ => none) (F_X3_findCorners_132 N k103) N
set_option maxRecDepth 100000 in
set_option maxHeartbeats 4000000 in
theorem tF_X3_findCorners_132 {θ : Th} {p : Program} {l : Launch} {e : Env} {s : State} {m : MethodId} {args : Array Value} {below : List Frame} {meth : Method} {c : Code} (C : Cx θ p s m args meth c cX3_findCorners 6 RX3 none) (N : Nat) {k103 : Int32 → Mm → Option Mm} (hk103 : J_X3_findCorners_103 θ p l e s m args below meth c k103) {k132 : Int32 → Int32 → Int32 → Mm → Option Mm} (hk132 : J_X3_findCorners_132 θ p l e s m args below meth c k132) : J_X3_findCorners_132 θ p l e s m args below meth c (F_X3_findCorners_132 N k103 k132) := by
  intro x2 x3 x4 M M1 h H locs ls hl hw hS
  unfold F_X3_findCorners_132 at h
  refine lv_iload C.1 C.2.1 dX3_findCorners_132 (lv_at hl 3 rfl) ?_
  refine lv_aload_n C.1 C.2.1 dX3_findCorners_134 rfl (lv_at hl 0 rfl) ?_
  refine gf_X3_found C hw w_539 dX3_findCorners_135 ?_
  refine lv_icmp_ge (tgt := 191) C.1 C.2.1 dX3_findCorners_138 (by decide) (fun c138 => ?_) (fun c138 => ?_)
  · have h := it_t c138 h
    refine lv_iload_n C.1 C.2.1 dX3_findCorners_191 rfl (lv_at hl 2 rfl) ?_
    refine lv_istore_n (lv' := [(2, .int x3), (0, .ref (tad θ 3)), (3, .int x3), (4, .int x4)]) C.1 C.2.1 dX3_findCorners_192 rfl hl (by decide) rfl (fun ls hl => ?_)
    refine lv_goto (tgt := 103) C.1 C.2.1 dX3_findCorners_193 (by decide) ?_
    exact hk103 _ _ _ h _ _ ls (lv_sub hl [1, 0] rfl) hw hS
  · have h := it_f c138 h
    refine lv_aload_n C.1 C.2.1 dX3_findCorners_141 rfl (lv_at hl 0 rfl) ?_
    refine lv_iload C.1 C.2.1 dX3_findCorners_142 (lv_at hl 3 rfl) ?_
    refine lv_iload_n C.1 C.2.1 dX3_findCorners_144 rfl (lv_at hl 1 rfl) ?_
    obtain ⟨⟨r145, M145⟩, h145, h⟩ := bind_s h
    dsimp only at h
    refine k_ci (k_runV (As := [.int x4, .int x2]) C cf_X3_later cv_X3_later w_727 rc3 (c_X3_later θ l N h145) ⟨rfl, rfl, Nat.le_of_ble_eq_true rfl, Nat.le_of_ble_eq_true rfl⟩ rfl hl.1 rfl (Nat.le_of_ble_eq_true rfl) dX3_findCorners_145 ⟨Nat.zero_le _, Nat.zero_le _⟩ hw) hS (fun H locs hw hS => ?_)
    refine lv_if_le (tgt := 155) C.1 C.2.1 dX3_findCorners_148 (by decide) (fun c148 => ?_) (fun c148 => ?_)
    · have h := it_t c148 h
      refine lv_iconst (v := 0) C.1 C.2.1 dX3_findCorners_155 (by decide) ?_
      exact t_X3_findCorners_156 C N hk103 hk132 _ _ _ _ _ _ h _ _ ls (lv_sub hl [0, 1, 2, 3] rfl) hw hS
    · have h := it_f c148 h
      refine lv_iconst (v := 1) C.1 C.2.1 dX3_findCorners_151 (by decide) ?_
      refine lv_goto (tgt := 156) C.1 C.2.1 dX3_findCorners_152 (by decide) ?_
      exact t_X3_findCorners_156 C N hk103 hk132 _ _ _ _ _ _ h _ _ ls (lv_sub hl [0, 1, 2, 3] rfl) hw hS
theorem t_X3_findCorners_132 {θ : Th} {p : Program} {l : Launch} {e : Env} {s : State} {m : MethodId} {args : Array Value} {below : List Frame} {meth : Method} {c : Code} (C : Cx θ p s m args meth c cX3_findCorners 6 RX3 none) (N : Nat) {k103 : Int32 → Mm → Option Mm} (hk103 : J_X3_findCorners_103 θ p l e s m args below meth c k103) : J_X3_findCorners_132 θ p l e s m args below meth c (b_X3_findCorners_132 N k103) := lpT_ind (J := J_X3_findCorners_132 θ p l e s m args below meth c) (fun _ _ _ _ _ h => by cases h) (fun k hk => tF_X3_findCorners_132 C N hk103 hk) N
def F_X3_findCorners_103 (N : Nat) (k103 : Int32 → Mm → Option Mm) (x2 : Int32) (M : Mm) : Option Mm :=
  (if x2 < 0 then some M else (wA M 14 (M.1 10) x2).bind fun M116 => b_X3_findCorners_132 N k103 x2 (-1) 0 (wI M116 10 ((M116.1 10) + 1)))
abbrev b_X3_findCorners_103 (N : Nat) : Int32 → Mm → Option Mm := lpT (fun _ _ => none) (F_X3_findCorners_103 N) N
set_option maxRecDepth 100000 in
set_option maxHeartbeats 4000000 in
theorem tF_X3_findCorners_103 {θ : Th} {p : Program} {l : Launch} {e : Env} {s : State} {m : MethodId} {args : Array Value} {below : List Frame} {meth : Method} {c : Code} (C : Cx θ p s m args meth c cX3_findCorners 6 RX3 none) (N : Nat) {k103 : Int32 → Mm → Option Mm} (hk103 : J_X3_findCorners_103 θ p l e s m args below meth c k103) : J_X3_findCorners_103 θ p l e s m args below meth c (F_X3_findCorners_103 N k103) := by
  intro x2 M M1 h H locs ls hl hw hS
  unfold F_X3_findCorners_103 at h
  refine lv_iload_n C.1 C.2.1 dX3_findCorners_103 rfl (lv_at hl 1 rfl) ?_
  refine lv_if_lt (tgt := 196) C.1 C.2.1 dX3_findCorners_104 (by decide) (fun c104 => ?_) (fun c104 => ?_)
  · have h := it_t c104 h
    cases h
    exact k_retv C hw hS dX3_findCorners_196
  · have h := it_f c104 h
    refine lv_aload_n C.1 C.2.1 dX3_findCorners_107 rfl (lv_at hl 0 rfl) ?_
    refine gf_X3_cornerAt C hw w_544 dX3_findCorners_108 ?_
    refine lv_aload_n C.1 C.2.1 dX3_findCorners_111 rfl (lv_at hl 0 rfl) ?_
    refine gf_X3_cornerCount C hw w_543 dX3_findCorners_112 ?_
    refine lv_iload_n C.1 C.2.1 dX3_findCorners_115 rfl (lv_at hl 1 rfl) ?_
    obtain ⟨M116, h116, h⟩ := bind_s h
    refine k_iast C hw hS 14 (by decide) h116 dX3_findCorners_116 (fun H locs hw hS => ?_)
    refine lv_aload_n C.1 C.2.1 dX3_findCorners_117 rfl (lv_at hl 0 rfl) ?_
    refine lv_dup C.1 C.2.1 dX3_findCorners_118 rfl ?_
    refine gf_X3_cornerCount C hw w_543 dX3_findCorners_119 ?_
    refine lv_iconst (v := 1) C.1 C.2.1 dX3_findCorners_122 (by decide) ?_
    refine lv_iadd C.1 C.2.1 dX3_findCorners_123 ?_
    refine pf_X3_cornerCount C hw hS w_543 dX3_findCorners_124 (fun H locs hw hS => ?_)
    refine lv_iconst (v := (-1)) C.1 C.2.1 dX3_findCorners_127 (by decide) ?_
    refine lv_istore_n (lv' := [(3, .int (-1)), (0, .ref (tad θ 3)), (2, .int x2)]) C.1 C.2.1 dX3_findCorners_128 rfl hl (by decide) rfl (fun ls hl => ?_)
    refine lv_iconst (v := 0) C.1 C.2.1 dX3_findCorners_129 (by decide) ?_
    refine lv_istore (lv' := [(4, .int 0), (3, .int (-1)), (0, .ref (tad θ 3)), (2, .int x2)]) C.1 C.2.1 dX3_findCorners_130 hl (by decide) rfl (fun ls hl => ?_)
    exact t_X3_findCorners_132 C N hk103 _ _ _ _ _ h _ _ ls (lv_sub hl [2, 3, 1, 0] rfl) hw hS
theorem t_X3_findCorners_103 {θ : Th} {p : Program} {l : Launch} {e : Env} {s : State} {m : MethodId} {args : Array Value} {below : List Frame} {meth : Method} {c : Code} (C : Cx θ p s m args meth c cX3_findCorners 6 RX3 none) (N : Nat) : J_X3_findCorners_103 θ p l e s m args below meth c (b_X3_findCorners_103 N) := lpT_ind (J := J_X3_findCorners_103 θ p l e s m args below meth c) (fun _ _ _ h => by cases h) (fun k hk => tF_X3_findCorners_103 C N hk) N
def F_X3_findCorners_35 (N : Nat) (k35 : Int32 → Int32 → Mm → Option Mm) (x2 : Int32) (x3 : Int32) (M : Mm) : Option Mm :=
  (if (M.1 9) ≤ x3 then b_X3_findCorners_103 N x2 M else (f_X3_later N x3 x2 M).bind fun (r46, M46) => (if r46 < 0 then k35 x3 (x3 + 1) M46 else (if r46 = 0 then (rL M46 4 x3).bind fun v66 => (rL M46 3 x3).bind fun v72 => (rL M46 4 x2).bind fun v78 => (rL M46 3 x2).bind fun v84 => (f_X3_compare N v66 v72 v78 v84 M46).bind fun (r85, M85) => (if r85 ≤ 0 then k35 x2 (x3 + 1) M85 else k35 x3 (x3 + 1) M85) else k35 x2 (x3 + 1) M46)))
abbrev b_X3_findCorners_35 (N : Nat) : Int32 → Int32 → Mm → Option Mm := lpT (fun _ _ _ => none) (F_X3_findCorners_35 N) N
set_option maxRecDepth 100000 in
set_option maxHeartbeats 4000000 in
theorem tF_X3_findCorners_35 {θ : Th} {p : Program} {l : Launch} {e : Env} {s : State} {m : MethodId} {args : Array Value} {below : List Frame} {meth : Method} {c : Code} (C : Cx θ p s m args meth c cX3_findCorners 6 RX3 none) (N : Nat) {k35 : Int32 → Int32 → Mm → Option Mm} (hk35 : J_X3_findCorners_35 θ p l e s m args below meth c k35) : J_X3_findCorners_35 θ p l e s m args below meth c (F_X3_findCorners_35 N k35) := by
  intro x2 x3 M M1 h H locs ls hl hw hS
  unfold F_X3_findCorners_35 at h
  refine lv_iload_n C.1 C.2.1 dX3_findCorners_35 rfl (lv_at hl 2 rfl) ?_
  refine lv_aload_n C.1 C.2.1 dX3_findCorners_36 rfl (lv_at hl 0 rfl) ?_
  refine gf_X3_found C hw w_539 dX3_findCorners_37 ?_
  refine lv_icmp_ge (tgt := 103) C.1 C.2.1 dX3_findCorners_40 (by decide) (fun c40 => ?_) (fun c40 => ?_)
  · have h := it_t c40 h
    exact t_X3_findCorners_103 C N _ _ _ h _ _ ls (lv_sub hl [0, 1] rfl) hw hS
  · have h := it_f c40 h
    refine lv_aload_n C.1 C.2.1 dX3_findCorners_43 rfl (lv_at hl 0 rfl) ?_
    refine lv_iload_n C.1 C.2.1 dX3_findCorners_44 rfl (lv_at hl 2 rfl) ?_
    refine lv_iload_n C.1 C.2.1 dX3_findCorners_45 rfl (lv_at hl 1 rfl) ?_
    obtain ⟨⟨r46, M46⟩, h46, h⟩ := bind_s h
    dsimp only at h
    refine k_ci (k_runV (As := [.int x3, .int x2]) C cf_X3_later cv_X3_later w_727 rc3 (c_X3_later θ l N h46) ⟨rfl, rfl, Nat.le_of_ble_eq_true rfl, Nat.le_of_ble_eq_true rfl⟩ rfl hl.1 rfl (Nat.le_of_ble_eq_true rfl) dX3_findCorners_46 ⟨Nat.zero_le _, Nat.zero_le _⟩ hw) hS (fun H locs hw hS => ?_)
    refine lv_istore (lv' := [(4, .int r46), (0, .ref (tad θ 3)), (2, .int x2), (3, .int x3)]) C.1 C.2.1 dX3_findCorners_49 hl (by decide) rfl (fun ls hl => ?_)
    refine lv_iload C.1 C.2.1 dX3_findCorners_51 (lv_at hl 0 rfl) ?_
    refine lv_if_lt (tgt := 91) C.1 C.2.1 dX3_findCorners_53 (by decide) (fun c53 => ?_) (fun c53 => ?_)
    · have h := it_t c53 h
      refine lv_iload_n C.1 C.2.1 dX3_findCorners_91 rfl (lv_at hl 3 rfl) ?_
      refine lv_goto (tgt := 96) C.1 C.2.1 dX3_findCorners_92 (by decide) ?_
      refine lv_istore_n (lv' := [(2, .int x3), (4, .int r46), (0, .ref (tad θ 3)), (3, .int x3)]) C.1 C.2.1 dX3_findCorners_96 rfl hl (by decide) rfl (fun ls hl => ?_)
      refine lv_iinc (v := (x3 + 1)) (lv' := [(3, .int (x3 + 1)), (2, .int x3), (4, .int r46), (0, .ref (tad θ 3))]) C.1 C.2.1 dX3_findCorners_97 hl (k := 3) rfl rfl (by decide) rfl (fun ls hl => ?_)
      refine lv_goto (tgt := 35) C.1 C.2.1 dX3_findCorners_100 (by decide) ?_
      exact hk35 _ _ _ _ h _ _ ls (lv_sub hl [3, 1, 0] rfl) hw hS
    · have h := it_f c53 h
      refine lv_iload C.1 C.2.1 dX3_findCorners_56 (lv_at hl 0 rfl) ?_
      refine lv_if_ne (tgt := 95) C.1 C.2.1 dX3_findCorners_58 (by decide) (fun c58 => ?_) (fun c58 => ?_)
      · have h := it_f c58 h
        refine lv_iload_n C.1 C.2.1 dX3_findCorners_95 rfl (lv_at hl 2 rfl) ?_
        refine lv_istore_n (lv' := [(2, .int x2), (4, .int r46), (0, .ref (tad θ 3)), (3, .int x3)]) C.1 C.2.1 dX3_findCorners_96 rfl hl (by decide) rfl (fun ls hl => ?_)
        refine lv_iinc (v := (x3 + 1)) (lv' := [(3, .int (x3 + 1)), (2, .int x2), (4, .int r46), (0, .ref (tad θ 3))]) C.1 C.2.1 dX3_findCorners_97 hl (k := 3) rfl rfl (by decide) rfl (fun ls hl => ?_)
        refine lv_goto (tgt := 35) C.1 C.2.1 dX3_findCorners_100 (by decide) ?_
        exact hk35 _ _ _ _ h _ _ ls (lv_sub hl [3, 1, 0] rfl) hw hS
      · have h := it_t c58 h
        refine lv_aload_n C.1 C.2.1 dX3_findCorners_61 rfl (lv_at hl 1 rfl) ?_
        refine gf_X3_worth C hw w_542 dX3_findCorners_62 ?_
        refine lv_iload_n C.1 C.2.1 dX3_findCorners_65 rfl (lv_at hl 3 rfl) ?_
        obtain ⟨v66, h66, h⟩ := bind_s h
        refine k_lald C hw 4 h66 dX3_findCorners_66 ?_
        refine lv_aload_n C.1 C.2.1 dX3_findCorners_67 rfl (lv_at hl 1 rfl) ?_
        refine gf_X3_below C hw w_541 dX3_findCorners_68 ?_
        refine lv_iload_n C.1 C.2.1 dX3_findCorners_71 rfl (lv_at hl 3 rfl) ?_
        obtain ⟨v72, h72, h⟩ := bind_s h
        refine k_lald C hw 3 h72 dX3_findCorners_72 ?_
        refine lv_aload_n C.1 C.2.1 dX3_findCorners_73 rfl (lv_at hl 1 rfl) ?_
        refine gf_X3_worth C hw w_542 dX3_findCorners_74 ?_
        refine lv_iload_n C.1 C.2.1 dX3_findCorners_77 rfl (lv_at hl 2 rfl) ?_
        obtain ⟨v78, h78, h⟩ := bind_s h
        refine k_lald C hw 4 h78 dX3_findCorners_78 ?_
        refine lv_aload_n C.1 C.2.1 dX3_findCorners_79 rfl (lv_at hl 1 rfl) ?_
        refine gf_X3_below C hw w_541 dX3_findCorners_80 ?_
        refine lv_iload_n C.1 C.2.1 dX3_findCorners_83 rfl (lv_at hl 2 rfl) ?_
        obtain ⟨v84, h84, h⟩ := bind_s h
        refine k_lald C hw 3 h84 dX3_findCorners_84 ?_
        obtain ⟨⟨r85, M85⟩, h85, h⟩ := bind_s h
        dsimp only at h
        refine k_ci (k_runS (As := [.long v66, .long v72, .long v78, .long v84]) C cf_X3_compare cs_X3_compare w_686 (c_X3_compare θ l N h85) ⟨rfl, rfl, Nat.le_of_ble_eq_true rfl, Nat.le_of_ble_eq_true rfl⟩ rfl hl.1 rfl (Nat.le_of_ble_eq_true rfl) dX3_findCorners_85 ⟨Nat.zero_le _, Nat.zero_le _⟩ hw) hS (fun H locs hw hS => ?_)
        refine lv_if_le (tgt := 95) C.1 C.2.1 dX3_findCorners_88 (by decide) (fun c88 => ?_) (fun c88 => ?_)
        · have h := it_t c88 h
          refine lv_iload_n C.1 C.2.1 dX3_findCorners_95 rfl (lv_at hl 2 rfl) ?_
          refine lv_istore_n (lv' := [(2, .int x2), (4, .int r46), (0, .ref (tad θ 3)), (3, .int x3)]) C.1 C.2.1 dX3_findCorners_96 rfl hl (by decide) rfl (fun ls hl => ?_)
          refine lv_iinc (v := (x3 + 1)) (lv' := [(3, .int (x3 + 1)), (2, .int x2), (4, .int r46), (0, .ref (tad θ 3))]) C.1 C.2.1 dX3_findCorners_97 hl (k := 3) rfl rfl (by decide) rfl (fun ls hl => ?_)
          refine lv_goto (tgt := 35) C.1 C.2.1 dX3_findCorners_100 (by decide) ?_
          exact hk35 _ _ _ _ h _ _ ls (lv_sub hl [3, 1, 0] rfl) hw hS
        · have h := it_f c88 h
          refine lv_iload_n C.1 C.2.1 dX3_findCorners_91 rfl (lv_at hl 3 rfl) ?_
          refine lv_goto (tgt := 96) C.1 C.2.1 dX3_findCorners_92 (by decide) ?_
          refine lv_istore_n (lv' := [(2, .int x3), (4, .int r46), (0, .ref (tad θ 3)), (3, .int x3)]) C.1 C.2.1 dX3_findCorners_96 rfl hl (by decide) rfl (fun ls hl => ?_)
          refine lv_iinc (v := (x3 + 1)) (lv' := [(3, .int (x3 + 1)), (2, .int x3), (4, .int r46), (0, .ref (tad θ 3))]) C.1 C.2.1 dX3_findCorners_97 hl (k := 3) rfl rfl (by decide) rfl (fun ls hl => ?_)
          refine lv_goto (tgt := 35) C.1 C.2.1 dX3_findCorners_100 (by decide) ?_
          exact hk35 _ _ _ _ h _ _ ls (lv_sub hl [3, 1, 0] rfl) hw hS
theorem t_X3_findCorners_35 {θ : Th} {p : Program} {l : Launch} {e : Env} {s : State} {m : MethodId} {args : Array Value} {below : List Frame} {meth : Method} {c : Code} (C : Cx θ p s m args meth c cX3_findCorners 6 RX3 none) (N : Nat) : J_X3_findCorners_35 θ p l e s m args below meth c (b_X3_findCorners_35 N) := lpT_ind (J := J_X3_findCorners_35 θ p l e s m args below meth c) (fun _ _ _ _ h => by cases h) (fun k hk => tF_X3_findCorners_35 C N hk) N
def b_X3_findCorners_0 (N : Nat) (M : Mm) : Option Mm :=
  (f_X3_grows N M).bind fun (r1, M1) => (f_X3_everyRow N M1).bind fun (r7, M7) => (f_X3_collect N r7 2 M7).bind fun M11 => (if r1 = 0 then (if ((wI M11 10 0).1 9) = 0 then some (wI M11 10 0) else b_X3_findCorners_35 N 0 1 (wI M11 10 0)) else some (wI M11 10 0))
set_option maxRecDepth 100000 in
set_option maxHeartbeats 4000000 in
theorem t_X3_findCorners_0 {θ : Th} {p : Program} {l : Launch} {e : Env} {s : State} {m : MethodId} {args : Array Value} {below : List Frame} {meth : Method} {c : Code} (C : Cx θ p s m args meth c cX3_findCorners 6 RX3 none) (N : Nat) : J_X3_findCorners_0 θ p l e s m args below meth c (b_X3_findCorners_0 N) := by
  intro M M1 h H locs ls hl hw hS
  unfold b_X3_findCorners_0 at h
  refine lv_aload_n C.1 C.2.1 dX3_findCorners_0 rfl (lv_at hl 0 rfl) ?_
  obtain ⟨⟨r1, M1⟩, h1, h⟩ := bind_s h
  dsimp only at h
  refine k_ci (k_runV (As := []) C cf_X3_grows cv_X3_grows w_670 rc3 (c_X3_grows θ l N h1) ⟨rfl, rfl, Nat.le_of_ble_eq_true rfl, Nat.le_of_ble_eq_true rfl⟩ rfl hl.1 rfl (Nat.le_of_ble_eq_true rfl) dX3_findCorners_1 ⟨Nat.zero_le _, Nat.zero_le _⟩ hw) hS (fun H locs hw hS => ?_)
  refine lv_istore_n (lv' := [(1, .int r1), (0, .ref (tad θ 3))]) C.1 C.2.1 dX3_findCorners_4 rfl hl (by decide) rfl (fun ls hl => ?_)
  refine lv_aload_n C.1 C.2.1 dX3_findCorners_5 rfl (lv_at hl 1 rfl) ?_
  refine lv_aload_n C.1 C.2.1 dX3_findCorners_6 rfl (lv_at hl 1 rfl) ?_
  obtain ⟨⟨r7, M7⟩, h7, h⟩ := bind_s h
  dsimp only at h
  refine k_ci (k_runV (As := []) C cf_X3_everyRow cv_X3_everyRow w_625 rc3 (c_X3_everyRow θ l N h7) ⟨rfl, rfl, Nat.le_of_ble_eq_true rfl, Nat.le_of_ble_eq_true rfl⟩ rfl hl.1 rfl (Nat.le_of_ble_eq_true rfl) dX3_findCorners_7 ⟨Nat.zero_le _, Nat.zero_le _⟩ hw) hS (fun H locs hw hS => ?_)
  refine lv_iconst (v := 2) C.1 C.2.1 dX3_findCorners_10 (by decide) ?_
  obtain ⟨M11, h11, h⟩ := bind_s h
  refine k_cv (k_runV (As := [.int r7, .int 2]) C cf_X3_collect cv_X3_collect w_633 rc3 (c_X3_collect θ l N h11) ⟨rfl, rfl, Nat.le_of_ble_eq_true rfl, Nat.le_of_ble_eq_true rfl⟩ rfl hl.1 rfl (Nat.le_of_ble_eq_true rfl) dX3_findCorners_11 ⟨Nat.zero_le _, Nat.zero_le _⟩ hw) hS (fun H locs hw hS => ?_)
  refine lv_aload_n C.1 C.2.1 dX3_findCorners_14 rfl (lv_at hl 1 rfl) ?_
  refine lv_iconst (v := 0) C.1 C.2.1 dX3_findCorners_15 (by decide) ?_
  refine pf_X3_cornerCount C hw hS w_543 dX3_findCorners_16 (fun H locs hw hS => ?_)
  refine lv_iload_n C.1 C.2.1 dX3_findCorners_19 rfl (lv_at hl 0 rfl) ?_
  refine lv_if_ne (tgt := 30) C.1 C.2.1 dX3_findCorners_20 (by decide) (fun c20 => ?_) (fun c20 => ?_)
  · have h := it_f c20 h
    cases h
    exact k_retv C hw hS dX3_findCorners_30
  · have h := it_t c20 h
    refine lv_aload_n C.1 C.2.1 dX3_findCorners_23 rfl (lv_at hl 1 rfl) ?_
    refine gf_X3_found C hw w_539 dX3_findCorners_24 ?_
    refine lv_if_ne (tgt := 31) C.1 C.2.1 dX3_findCorners_27 (by decide) (fun c27 => ?_) (fun c27 => ?_)
    · have h := it_f c27 h
      refine lv_iconst (v := 0) C.1 C.2.1 dX3_findCorners_31 (by decide) ?_
      refine lv_istore_n (lv' := [(2, .int 0), (1, .int r1), (0, .ref (tad θ 3))]) C.1 C.2.1 dX3_findCorners_32 rfl hl (by decide) rfl (fun ls hl => ?_)
      refine lv_iconst (v := 1) C.1 C.2.1 dX3_findCorners_33 (by decide) ?_
      refine lv_istore_n (lv' := [(3, .int 1), (2, .int 0), (1, .int r1), (0, .ref (tad θ 3))]) C.1 C.2.1 dX3_findCorners_34 rfl hl (by decide) rfl (fun ls hl => ?_)
      exact t_X3_findCorners_35 C N _ _ _ _ h _ _ ls (lv_sub hl [3, 1, 0] rfl) hw hS
    · have h := it_t c27 h
      cases h
      exact k_retv C hw hS dX3_findCorners_30
def f_X3_findCorners (N : Nat) (M : Mm) : Option Mm := b_X3_findCorners_0 N M
set_option maxRecDepth 100000 in
theorem c_X3_findCorners (θ : Th) (l : Launch) (N : Nat) {M : Mm} {M1 : Mm} (h : f_X3_findCorners N M = some M1) : Met l yX3_findCorners (gws yX3_findCorners cX3_findCorners 6 none) rm_X3_findCorners (va_Pc [.ref (tad θ 3)] (wU θ M)) (qV θ M1) 0 0 (tA θ) :=
  k_met (by decide +kernel) (Nat.le_of_ble_eq_true rfl) (fun p e s m args below meth c C ls hl hw => t_X3_findCorners_0 C N _ _ h _ _ ls (lv_sub hl [0] rfl) hw va_S.rf)
abbrev rm_X3_corners : Room := { frames := 6, cells := 0, slots := 0, locals := 150 }
def J_X3_corners_0 (θ : Th) (p : Program) (l : Launch) (e : Env) (s : State) (m : MethodId) (args : Array Value) (below : List Frame) (meth : Method) (c : Code) (g : Mm → Option (Int32 × Mm)) : Prop := ∀ (M : Mm) (r : Int32) (M1 : Mm), g M = some (r, M1) → ∀ (H : Heap) (locs : List Loc) (ls : Array Slot), lv_has ls 1 [(0, .ref (tad θ 3))] → wd θ M H → va_S (tA θ) s.heap H locs → W p l e rm_X3_corners s m args below meth c H locs 0 0 (MQ below (qI θ r M1) args s 0 0 (tA θ)) (F0 m 0 ls [])
def b_X3_corners_0 (N : Nat) (M : Mm) : Option (Int32 × Mm) :=
  (f_X3_findCorners N (wI M 6 0)).bind fun M6 => some ((M6.1 10), M6)
set_option maxRecDepth 100000 in
set_option maxHeartbeats 4000000 in
theorem t_X3_corners_0 {θ : Th} {p : Program} {l : Launch} {e : Env} {s : State} {m : MethodId} {args : Array Value} {below : List Frame} {meth : Method} {c : Code} (C : Cx θ p s m args meth c cX3_corners 1 RX3 (some .int)) (N : Nat) : J_X3_corners_0 θ p l e s m args below meth c (b_X3_corners_0 N) := by
  intro M r M1 h H locs ls hl hw hS
  unfold b_X3_corners_0 at h
  refine lv_aload_n C.1 C.2.1 dX3_corners_0 rfl (lv_at hl 0 rfl) ?_
  refine lv_iconst (v := 0) C.1 C.2.1 dX3_corners_1 (by decide) ?_
  refine pf_X3_thrown C hw hS w_532 dX3_corners_2 (fun H locs hw hS => ?_)
  refine lv_aload_n C.1 C.2.1 dX3_corners_5 rfl (lv_at hl 0 rfl) ?_
  obtain ⟨M6, h6, h⟩ := bind_s h
  refine k_cv (k_runV (As := []) C cf_X3_findCorners cv_X3_findCorners w_723 rc3 (c_X3_findCorners θ l N h6) ⟨rfl, rfl, Nat.le_of_ble_eq_true rfl, Nat.le_of_ble_eq_true rfl⟩ rfl hl.1 rfl (Nat.le_of_ble_eq_true rfl) dX3_corners_6 ⟨Nat.zero_le _, Nat.zero_le _⟩ hw) hS (fun H locs hw hS => ?_)
  refine lv_aload_n C.1 C.2.1 dX3_corners_9 rfl (lv_at hl 0 rfl) ?_
  refine gf_X3_cornerCount C hw w_543 dX3_corners_10 ?_
  cases h
  exact k_reti C hw hS dX3_corners_13
def f_X3_corners (N : Nat) (M : Mm) : Option (Int32 × Mm) := b_X3_corners_0 N M
set_option maxRecDepth 100000 in
theorem c_X3_corners (θ : Th) (l : Launch) (N : Nat) {M : Mm} {r : Int32} {M1 : Mm} (h : f_X3_corners N M = some (r, M1)) : Met l yX3_corners (gws yX3_corners cX3_corners 1 (some .int)) rm_X3_corners (va_Pc [.ref (tad θ 3)] (wU θ M)) (qI θ r M1) 0 0 (tA θ) :=
  k_met (by decide +kernel) (Nat.le_of_ble_eq_true rfl) (fun p e s m args below meth c C ls hl hw => t_X3_corners_0 C N _ _ _ h _ _ ls (lv_sub hl [0] rfl) hw va_S.rf)
abbrev rm_X3_corner : Room := { frames := 6, cells := 0, slots := 0, locals := 150 }
def J_X3_corner_0 (θ : Th) (p : Program) (l : Launch) (e : Env) (s : State) (m : MethodId) (args : Array Value) (below : List Frame) (meth : Method) (c : Code) (g : Int32 → Int32 → Mm → Option (Int64 × Mm)) : Prop := ∀ (x1 : Int32) (x2 : Int32) (M : Mm) (r : Int64) (M1 : Mm), g x1 x2 M = some (r, M1) → ∀ (H : Heap) (locs : List Loc) (ls : Array Slot), lv_has ls 4 [(0, .ref (tad θ 3)), (1, .int x1), (2, .int x2)] → wd θ M H → va_S (tA θ) s.heap H locs → W p l e rm_X3_corner s m args below meth c H locs 0 0 (MQ below (qL θ r M1) args s 0 0 (tA θ)) (F0 m 0 ls [])
def b_X3_corner_0 (N : Nat) (x1 : Int32) (x2 : Int32) (M : Mm) : Option (Int64 × Mm) :=
  (f_X3_findCorners N M).bind fun M1 => (f_X3_outside N x1 0 ((M1.1 10) - 1) M1).bind fun (r13, M13) => (f_X3_outside N x2 0 3 M13).bind fun (r19, M19) => (f_X3_refuses N r13 r19 0 0 M19).bind fun (r24, M24) => (if r24 = 0 then (rA M24 14 x1).bind fun v37 => (if 2 ≤ x2 then (rL M24 4 v37).bind fun v75 => (rL M24 3 v37).bind fun v81 => (f_X3_told N v75 v81 (x2 - 2) M24).bind fun (r85, M85) => some (r85, M85) else (rL M24 2 ((5 * v37) + (M24.1 4))).bind fun v56 => (rL M24 3 v37).bind fun v62 => (f_X3_told N v56 v62 x2 M24).bind fun (r64, M64) => some (r64, M64)) else some (0, M24))
set_option maxRecDepth 100000 in
set_option maxHeartbeats 4000000 in
theorem t_X3_corner_0 {θ : Th} {p : Program} {l : Launch} {e : Env} {s : State} {m : MethodId} {args : Array Value} {below : List Frame} {meth : Method} {c : Code} (C : Cx θ p s m args meth c cX3_corner 4 RX3 (some .long)) (N : Nat) : J_X3_corner_0 θ p l e s m args below meth c (b_X3_corner_0 N) := by
  intro x1 x2 M r M1 h H locs ls hl hw hS
  unfold b_X3_corner_0 at h
  refine lv_aload_n C.1 C.2.1 dX3_corner_0 rfl (lv_at hl 0 rfl) ?_
  obtain ⟨M1, h1, h⟩ := bind_s h
  refine k_cv (k_runV (As := []) C cf_X3_findCorners cv_X3_findCorners w_723 rc3 (c_X3_findCorners θ l N h1) ⟨rfl, rfl, Nat.le_of_ble_eq_true rfl, Nat.le_of_ble_eq_true rfl⟩ rfl hl.1 rfl (Nat.le_of_ble_eq_true rfl) dX3_corner_1 ⟨Nat.zero_le _, Nat.zero_le _⟩ hw) hS (fun H locs hw hS => ?_)
  refine lv_aload_n C.1 C.2.1 dX3_corner_4 rfl (lv_at hl 0 rfl) ?_
  refine lv_iload_n C.1 C.2.1 dX3_corner_5 rfl (lv_at hl 1 rfl) ?_
  refine lv_iconst (v := 0) C.1 C.2.1 dX3_corner_6 (by decide) ?_
  refine lv_aload_n C.1 C.2.1 dX3_corner_7 rfl (lv_at hl 0 rfl) ?_
  refine gf_X3_cornerCount C hw w_543 dX3_corner_8 ?_
  refine lv_iconst (v := 1) C.1 C.2.1 dX3_corner_11 (by decide) ?_
  refine lv_isub C.1 C.2.1 dX3_corner_12 ?_
  obtain ⟨⟨r13, M13⟩, h13, h⟩ := bind_s h
  dsimp only at h
  refine k_ci (k_runS (As := [.int x1, .int 0, .int ((M1.1 10) - 1)]) C cf_X3_outside cs_X3_outside w_594 (c_X3_outside θ l N h13) ⟨rfl, rfl, Nat.le_of_ble_eq_true rfl, Nat.le_of_ble_eq_true rfl⟩ rfl hl.1 rfl (Nat.le_of_ble_eq_true rfl) dX3_corner_13 ⟨Nat.zero_le _, Nat.zero_le _⟩ hw) hS (fun H locs hw hS => ?_)
  refine lv_iload_n C.1 C.2.1 dX3_corner_16 rfl (lv_at hl 2 rfl) ?_
  refine lv_iconst (v := 0) C.1 C.2.1 dX3_corner_17 (by decide) ?_
  refine lv_iconst (v := 3) C.1 C.2.1 dX3_corner_18 (by decide) ?_
  obtain ⟨⟨r19, M19⟩, h19, h⟩ := bind_s h
  dsimp only at h
  refine k_ci (k_runS (As := [.int x2, .int 0, .int 3]) C cf_X3_outside cs_X3_outside w_594 (c_X3_outside θ l N h19) ⟨rfl, rfl, Nat.le_of_ble_eq_true rfl, Nat.le_of_ble_eq_true rfl⟩ rfl hl.1 rfl (Nat.le_of_ble_eq_true rfl) dX3_corner_19 ⟨Nat.zero_le _, Nat.zero_le _⟩ hw) hS (fun H locs hw hS => ?_)
  refine lv_iconst (v := 0) C.1 C.2.1 dX3_corner_22 (by decide) ?_
  refine lv_iconst (v := 0) C.1 C.2.1 dX3_corner_23 (by decide) ?_
  obtain ⟨⟨r24, M24⟩, h24, h⟩ := bind_s h
  dsimp only at h
  refine k_ci (k_runV (As := [.int r13, .int r19, .int 0, .int 0]) C cf_X3_refuses cv_X3_refuses w_597 rc3 (c_X3_refuses θ l N h24) ⟨rfl, rfl, Nat.le_of_ble_eq_true rfl, Nat.le_of_ble_eq_true rfl⟩ rfl hl.1 rfl (Nat.le_of_ble_eq_true rfl) dX3_corner_24 ⟨Nat.zero_le _, Nat.zero_le _⟩ hw) hS (fun H locs hw hS => ?_)
  refine lv_if_eq (tgt := 32) C.1 C.2.1 dX3_corner_27 (by decide) (fun c27 => ?_) (fun c27 => ?_)
  · have h := it_t c27 h
    refine lv_aload_n C.1 C.2.1 dX3_corner_32 rfl (lv_at hl 0 rfl) ?_
    refine gf_X3_cornerAt C hw w_544 dX3_corner_33 ?_
    refine lv_iload_n C.1 C.2.1 dX3_corner_36 rfl (lv_at hl 1 rfl) ?_
    obtain ⟨v37, h37, h⟩ := bind_s h
    refine k_iald C hw 14 (by decide) h37 dX3_corner_37 ?_
    refine lv_istore_n (lv' := [(3, .int v37), (0, .ref (tad θ 3)), (1, .int x1), (2, .int x2)]) C.1 C.2.1 dX3_corner_38 rfl hl (by decide) rfl (fun ls hl => ?_)
    refine lv_iload_n C.1 C.2.1 dX3_corner_39 rfl (lv_at hl 3 rfl) ?_
    refine lv_iconst (v := 2) C.1 C.2.1 dX3_corner_40 (by decide) ?_
    refine lv_icmp_ge (tgt := 70) C.1 C.2.1 dX3_corner_41 (by decide) (fun c41 => ?_) (fun c41 => ?_)
    · have h := it_t c41 h
      refine lv_aload_n C.1 C.2.1 dX3_corner_70 rfl (lv_at hl 1 rfl) ?_
      refine gf_X3_worth C hw w_542 dX3_corner_71 ?_
      refine lv_iload_n C.1 C.2.1 dX3_corner_74 rfl (lv_at hl 0 rfl) ?_
      obtain ⟨v75, h75, h⟩ := bind_s h
      refine k_lald C hw 4 h75 dX3_corner_75 ?_
      refine lv_aload_n C.1 C.2.1 dX3_corner_76 rfl (lv_at hl 1 rfl) ?_
      refine gf_X3_below C hw w_541 dX3_corner_77 ?_
      refine lv_iload_n C.1 C.2.1 dX3_corner_80 rfl (lv_at hl 0 rfl) ?_
      obtain ⟨v81, h81, h⟩ := bind_s h
      refine k_lald C hw 3 h81 dX3_corner_81 ?_
      refine lv_iload_n C.1 C.2.1 dX3_corner_82 rfl (lv_at hl 3 rfl) ?_
      refine lv_iconst (v := 2) C.1 C.2.1 dX3_corner_83 (by decide) ?_
      refine lv_isub C.1 C.2.1 dX3_corner_84 ?_
      obtain ⟨⟨r85, M85⟩, h85, h⟩ := bind_s h
      dsimp only at h
      refine k_cl (k_runS (As := [.long v75, .long v81, .int (x2 - 2)]) C cf_X3_told cs_X3_told w_689 (c_X3_told θ l N h85) ⟨rfl, rfl, Nat.le_of_ble_eq_true rfl, Nat.le_of_ble_eq_true rfl⟩ rfl hl.1 rfl (Nat.le_of_ble_eq_true rfl) dX3_corner_85 ⟨Nat.zero_le _, Nat.zero_le _⟩ hw) hS (fun H locs hw hS => ?_)
      cases h
      exact k_retl C hw hS dX3_corner_88
    · have h := it_f c41 h
      refine lv_aload_n C.1 C.2.1 dX3_corner_44 rfl (lv_at hl 1 rfl) ?_
      refine gf_X3_above C hw w_540 dX3_corner_45 ?_
      refine lv_iconst (v := 5) C.1 C.2.1 dX3_corner_48 (by decide) ?_
      refine lv_iload_n C.1 C.2.1 dX3_corner_49 rfl (lv_at hl 0 rfl) ?_
      refine lv_imul C.1 C.2.1 dX3_corner_50 ?_
      refine lv_aload_n C.1 C.2.1 dX3_corner_51 rfl (lv_at hl 1 rfl) ?_
      refine gf_X3_n C hw w_525 dX3_corner_52 ?_
      refine lv_iadd C.1 C.2.1 dX3_corner_55 ?_
      obtain ⟨v56, h56, h⟩ := bind_s h
      refine k_lald C hw 2 h56 dX3_corner_56 ?_
      refine lv_aload_n C.1 C.2.1 dX3_corner_57 rfl (lv_at hl 1 rfl) ?_
      refine gf_X3_below C hw w_541 dX3_corner_58 ?_
      refine lv_iload_n C.1 C.2.1 dX3_corner_61 rfl (lv_at hl 0 rfl) ?_
      obtain ⟨v62, h62, h⟩ := bind_s h
      refine k_lald C hw 3 h62 dX3_corner_62 ?_
      refine lv_iload_n C.1 C.2.1 dX3_corner_63 rfl (lv_at hl 3 rfl) ?_
      obtain ⟨⟨r64, M64⟩, h64, h⟩ := bind_s h
      dsimp only at h
      refine k_cl (k_runS (As := [.long v56, .long v62, .int x2]) C cf_X3_told cs_X3_told w_689 (c_X3_told θ l N h64) ⟨rfl, rfl, Nat.le_of_ble_eq_true rfl, Nat.le_of_ble_eq_true rfl⟩ rfl hl.1 rfl (Nat.le_of_ble_eq_true rfl) dX3_corner_64 ⟨Nat.zero_le _, Nat.zero_le _⟩ hw) hS (fun H locs hw hS => ?_)
      refine lv_goto (tgt := 88) C.1 C.2.1 dX3_corner_67 (by decide) ?_
      cases h
      exact k_retl C hw hS dX3_corner_88
  · have h := it_f c27 h
    refine lv_lconst (v := 0) C.1 C.2.1 dX3_corner_30 (by decide) ?_
    cases h
    exact k_retl C hw hS dX3_corner_31
def f_X3_corner (N : Nat) (x1 : Int32) (x2 : Int32) (M : Mm) : Option (Int64 × Mm) := b_X3_corner_0 N x1 x2 M
set_option maxRecDepth 100000 in
theorem c_X3_corner (θ : Th) (l : Launch) (N : Nat) {x1 : Int32} {x2 : Int32} {M : Mm} {r : Int64} {M1 : Mm} (h : f_X3_corner N x1 x2 M = some (r, M1)) : Met l yX3_corner (gws yX3_corner cX3_corner 4 (some .long)) rm_X3_corner (va_Pc [.ref (tad θ 3), .int x1, .int x2] (wU θ M)) (qL θ r M1) 0 0 (tA θ) :=
  k_met (by decide +kernel) (Nat.le_of_ble_eq_true rfl) (fun p e s m args below meth c C ls hl hw => t_X3_corner_0 C N _ _ _ _ _ h _ _ ls (lv_sub hl [0, 1, 2] rfl) hw va_S.rf)
