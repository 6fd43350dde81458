abbrev rm_X2_begin : Room := { frames := 6, cells := 1, slots := 6, locals := 89 }
def J_X2_begin_0 (θ : Th) (p : Program) (l : Launch) (e : Env) (s : State) (m : MethodId) (args : Array Value) (below : List Frame) (meth : Method) (c : Code) (g : Int32 → Int32 → Mm → Option ((Nat ⊕ Unit) × Mm)) : Prop := ∀ (x1 : Int32) (x2 : Int32) (M : Mm) (r : (Nat ⊕ Unit)) (M1 : Mm), g x1 x2 M = some (r, M1) → ∀ (H : Heap) (locs : List Loc) (ls : Array Slot), lv_has ls 3 [(0, .ref (tad θ 0)), (1, .int x1), (2, .int x2)] → wd θ M H → va_S (tA θ) s.heap H locs → W p l e rm_X2_begin s m args below meth c H locs 0 0 (vx_MQ below (yV θ r M1) (xX θ r M1) args s 1 6 (tA θ)) (F0 m 0 ls [])
def b_X2_begin_0 (N : Nat) (x1 : Int32) (x2 : Int32) (M : Mm) : Option ((Nat ⊕ Unit) × Mm) :=
  (if x1 < 1 then some (.inl 0, M) else (if 4 < x1 then some (.inl 0, M) else (if x2 < 0 then some (.inl 0, M) else (if x2 ≤ 3 then (f_X1_clear N x1 x2 M).bind fun M33 => (f_X0_forget N M33).bind fun M40 => some (.inr (), M40) else some (.inl 0, M)))))
set_option maxRecDepth 100000 in
set_option maxHeartbeats 4000000 in
theorem t_X2_begin_0 {θ : Th} {p : Program} {l : Launch} {e : Env} {s : State} {m : MethodId} {args : Array Value} {below : List Frame} {meth : Method} {c : Code} (C : Cx θ p s m args meth c cX2_begin 3 RX2 none) (ZX : l.stackTraces = false ∧ zz θ s s.heap ∧ ∀ x ∈ c.exceptionTable.toList, False) (N : Nat) : J_X2_begin_0 θ p l e s m args below meth c (b_X2_begin_0 N) := by
  intro x1 x2 M r M1 h H locs ls hl hw hS
  unfold b_X2_begin_0 at h
  refine lv_iload_n C.1 C.2.1 dX2_begin_0 rfl (lv_at hl 1 rfl) ?_
  refine lv_iconst (v := 1) C.1 C.2.1 dX2_begin_1 (by decide) ?_
  refine lv_icmp_lt (tgt := 19) C.1 C.2.1 dX2_begin_2 (by decide) (fun c2 => ?_) (fun c2 => ?_)
  · have h := it_t c2 h
    cases h
    exact k_throw C ZX.1 ZX.2.1 ZX.2.2 hw hS th_RX2_27_29 hl.1 dX2_begin_19 dX2_begin_22 dX2_begin_23 dX2_begin_26 ⟨Nat.le_of_ble_eq_true rfl, Nat.le_of_ble_eq_true rfl, Nat.le_of_ble_eq_true rfl, Nat.le_of_ble_eq_true rfl⟩
  · have h := it_f c2 h
    refine lv_iload_n C.1 C.2.1 dX2_begin_5 rfl (lv_at hl 1 rfl) ?_
    refine lv_iconst (v := 4) C.1 C.2.1 dX2_begin_6 (by decide) ?_
    refine lv_icmp_gt (tgt := 19) C.1 C.2.1 dX2_begin_7 (by decide) (fun c7 => ?_) (fun c7 => ?_)
    · have h := it_t c7 h
      cases h
      exact k_throw C ZX.1 ZX.2.1 ZX.2.2 hw hS th_RX2_27_29 hl.1 dX2_begin_19 dX2_begin_22 dX2_begin_23 dX2_begin_26 ⟨Nat.le_of_ble_eq_true rfl, Nat.le_of_ble_eq_true rfl, Nat.le_of_ble_eq_true rfl, Nat.le_of_ble_eq_true rfl⟩
    · have h := it_f c7 h
      refine lv_iload_n C.1 C.2.1 dX2_begin_10 rfl (lv_at hl 2 rfl) ?_
      refine lv_if_lt (tgt := 19) C.1 C.2.1 dX2_begin_11 (by decide) (fun c11 => ?_) (fun c11 => ?_)
      · have h := it_t c11 h
        cases h
        exact k_throw C ZX.1 ZX.2.1 ZX.2.2 hw hS th_RX2_27_29 hl.1 dX2_begin_19 dX2_begin_22 dX2_begin_23 dX2_begin_26 ⟨Nat.le_of_ble_eq_true rfl, Nat.le_of_ble_eq_true rfl, Nat.le_of_ble_eq_true rfl, Nat.le_of_ble_eq_true rfl⟩
      · have h := it_f c11 h
        refine lv_iload_n C.1 C.2.1 dX2_begin_14 rfl (lv_at hl 2 rfl) ?_
        refine lv_iconst (v := 3) C.1 C.2.1 dX2_begin_15 (by decide) ?_
        refine lv_icmp_le (tgt := 27) C.1 C.2.1 dX2_begin_16 (by decide) (fun c16 => ?_) (fun c16 => ?_)
        · have h := it_t c16 h
          refine lv_aload_n C.1 C.2.1 dX2_begin_27 rfl (lv_at hl 0 rfl) ?_
          refine gf_X2_sheet C hw w_129 dX2_begin_28 ?_
          refine lv_iload_n C.1 C.2.1 dX2_begin_31 rfl (lv_at hl 1 rfl) ?_
          refine lv_iload_n C.1 C.2.1 dX2_begin_32 rfl (lv_at hl 2 rfl) ?_
          obtain ⟨M33, h33, h⟩ := bind_s h
          refine k_cv (k_runV (As := [.int x1, .int x2]) C cf_X1_clear cv_X1_clear w_321 rc1 (c_X1_clear θ l N h33) ⟨rfl, rfl, Nat.le_of_ble_eq_true rfl, Nat.le_of_ble_eq_true rfl⟩ rfl hl.1 rfl (Nat.le_of_ble_eq_true rfl) dX2_begin_33 ⟨Nat.zero_le _, Nat.zero_le _⟩ hw) hS (fun H locs hw hS => ?_)
          refine lv_aload_n C.1 C.2.1 dX2_begin_36 rfl (lv_at hl 0 rfl) ?_
          refine gf_X2_cone C hw w_130 dX2_begin_37 ?_
          obtain ⟨M40, h40, h⟩ := bind_s h
          refine k_cv (k_runV (As := []) C cf_X0_forget cv_X0_forget w_325 rc2 (c_X0_forget θ l N h40) ⟨rfl, rfl, Nat.le_of_ble_eq_true rfl, Nat.le_of_ble_eq_true rfl⟩ rfl hl.1 rfl (Nat.le_of_ble_eq_true rfl) dX2_begin_40 ⟨Nat.zero_le _, Nat.zero_le _⟩ hw) hS (fun H locs hw hS => ?_)
          cases h
          exact x_retv C hw hS dX2_begin_43
        · have h := it_f c16 h
          cases h
          exact k_throw C ZX.1 ZX.2.1 ZX.2.2 hw hS th_RX2_27_29 hl.1 dX2_begin_19 dX2_begin_22 dX2_begin_23 dX2_begin_26 ⟨Nat.le_of_ble_eq_true rfl, Nat.le_of_ble_eq_true rfl, Nat.le_of_ble_eq_true rfl, Nat.le_of_ble_eq_true rfl⟩
def f_X2_begin (N : Nat) (x1 : Int32) (x2 : Int32) (M : Mm) : Option ((Nat ⊕ Unit) × Mm) := b_X2_begin_0 N x1 x2 M
set_option maxRecDepth 100000 in
theorem c_X2_begin (θ : Th) (l : Launch) (hl0 : l.stackTraces = false) (N : Nat) {x1 : Int32} {x2 : Int32} {M : Mm} {r : (Nat ⊕ Unit)} {M1 : Mm} (h : f_X2_begin N x1 x2 M = some (r, M1)) : vx_Met l yX2_begin (gws yX2_begin cX2_begin 3 none) rm_X2_begin (va_Pc [.ref (tad θ 0), .int x1, .int x2] (wX θ M)) (yV θ r M1) (xX θ r M1) 1 6 (tA θ) :=
  x_met (by decide +kernel) (Nat.le_of_ble_eq_true rfl) (fun p e s m args below meth c C Z htab ls hl hw => t_X2_begin_0 C ⟨hl0, Z, htab⟩ N _ _ _ _ _ h _ _ ls (lv_sub hl [0, 1, 2] rfl) hw va_S.rf)
abbrev rm_X2_coefficient : Room := { frames := 6, cells := 1, slots := 6, locals := 89 }
def J_X2_coefficient_0 (θ : Th) (p : Program) (l : Launch) (e : Env) (s : State) (m : MethodId) (args : Array Value) (below : List Frame) (meth : Method) (c : Code) (g : Int32 → Int32 → Int32 → Mm → Option ((Nat ⊕ Unit) × Mm)) : Prop := ∀ (x1 : Int32) (x2 : Int32) (x3 : Int32) (M : Mm) (r : (Nat ⊕ Unit)) (M1 : Mm), g x1 x2 x3 M = some (r, M1) → ∀ (H : Heap) (locs : List Loc) (ls : Array Slot), lv_has ls 4 [(0, .ref (tad θ 0)), (1, .int x1), (2, .int x2), (3, .int x3)] → wd θ M H → va_S (tA θ) s.heap H locs → W p l e rm_X2_coefficient s m args below meth c H locs 0 0 (vx_MQ below (yV θ r M1) (xX θ r M1) args s 1 6 (tA θ)) (F0 m 0 ls [])
def b_X2_coefficient_0 (N : Nat) (x1 : Int32) (x2 : Int32) (x3 : Int32) (M : Mm) : Option ((Nat ⊕ Unit) × Mm) :=
  (f_X2_hasRow N x1 M).bind fun (r2, M2) => (if r2 = 0 then some (.inl 2, M2) else (f_X2_hasVariable N x2 M2).bind fun (r10, M10) => (if r10 = 0 then some (.inl 2, M10) else (f_X2_isFactor N x3 M10).bind fun (r25, M25) => (if r25 = 0 then some (.inl 0, M25) else (f_X1_setFactor N x1 x2 x3 M25).bind fun M46 => (f_X0_forget N M46).bind fun M53 => some (.inr (), M53))))
set_option maxRecDepth 100000 in
set_option maxHeartbeats 4000000 in
theorem t_X2_coefficient_0 {θ : Th} {p : Program} {l : Launch} {e : Env} {s : State} {m : MethodId} {args : Array Value} {below : List Frame} {meth : Method} {c : Code} (C : Cx θ p s m args meth c cX2_coefficient 4 RX2 none) (ZX : l.stackTraces = false ∧ zz θ s s.heap ∧ ∀ x ∈ c.exceptionTable.toList, False) (N : Nat) : J_X2_coefficient_0 θ p l e s m args below meth c (b_X2_coefficient_0 N) := by
  intro x1 x2 x3 M r M1 h H locs ls hl hw hS
  unfold b_X2_coefficient_0 at h
  refine lv_aload_n C.1 C.2.1 dX2_coefficient_0 rfl (lv_at hl 0 rfl) ?_
  refine lv_iload_n C.1 C.2.1 dX2_coefficient_1 rfl (lv_at hl 1 rfl) ?_
  obtain ⟨⟨r2, M2⟩, h2, h⟩ := bind_s h
  dsimp only at h
  refine k_ci (k_runV (As := [.int x1]) C cf_X2_hasRow cv_X2_hasRow w_337 rc0 (c_X2_hasRow θ l N h2) ⟨rfl, rfl, Nat.le_of_ble_eq_true rfl, Nat.le_of_ble_eq_true rfl⟩ rfl hl.1 rfl (Nat.le_of_ble_eq_true rfl) dX2_coefficient_2 ⟨Nat.zero_le _, Nat.zero_le _⟩ hw) hS (fun H locs hw hS => ?_)
  refine lv_if_eq (tgt := 16) C.1 C.2.1 dX2_coefficient_5 (by decide) (fun c5 => ?_) (fun c5 => ?_)
  · have h := it_t c5 h
    cases h
    exact k_throw C ZX.1 ZX.2.1 ZX.2.2 hw hS th_RX2_44_46 hl.1 dX2_coefficient_16 dX2_coefficient_19 dX2_coefficient_20 dX2_coefficient_23 ⟨Nat.le_of_ble_eq_true rfl, Nat.le_of_ble_eq_true rfl, Nat.le_of_ble_eq_true rfl, Nat.le_of_ble_eq_true rfl⟩
  · have h := it_f c5 h
    refine lv_aload_n C.1 C.2.1 dX2_coefficient_8 rfl (lv_at hl 0 rfl) ?_
    refine lv_iload_n C.1 C.2.1 dX2_coefficient_9 rfl (lv_at hl 2 rfl) ?_
    obtain ⟨⟨r10, M10⟩, h10, h⟩ := bind_s h
    dsimp only at h
    refine k_ci (k_runV (As := [.int x2]) C cf_X2_hasVariable cv_X2_hasVariable w_341 rc0 (c_X2_hasVariable θ l N h10) ⟨rfl, rfl, Nat.le_of_ble_eq_true rfl, Nat.le_of_ble_eq_true rfl⟩ rfl hl.1 rfl (Nat.le_of_ble_eq_true rfl) dX2_coefficient_10 ⟨Nat.zero_le _, Nat.zero_le _⟩ hw) hS (fun H locs hw hS => ?_)
    refine lv_if_ne (tgt := 24) C.1 C.2.1 dX2_coefficient_13 (by decide) (fun c13 => ?_) (fun c13 => ?_)
    · have h := it_f c13 h
      refine lv_iload_n C.1 C.2.1 dX2_coefficient_24 rfl (lv_at hl 3 rfl) ?_
      obtain ⟨⟨r25, M25⟩, h25, h⟩ := bind_s h
      dsimp only at h
      refine k_ci (k_runS (As := [.int x3]) C cf_X2_isFactor cs_X2_isFactor w_360 (c_X2_isFactor θ l N h25) ⟨rfl, rfl, Nat.le_of_ble_eq_true rfl, Nat.le_of_ble_eq_true rfl⟩ rfl hl.1 rfl (Nat.le_of_ble_eq_true rfl) dX2_coefficient_25 ⟨Nat.zero_le _, Nat.zero_le _⟩ hw) hS (fun H locs hw hS => ?_)
      refine lv_if_ne (tgt := 39) C.1 C.2.1 dX2_coefficient_28 (by decide) (fun c28 => ?_) (fun c28 => ?_)
      · have h := it_f c28 h
        refine lv_aload_n C.1 C.2.1 dX2_coefficient_39 rfl (lv_at hl 0 rfl) ?_
        refine gf_X2_sheet C hw w_129 dX2_coefficient_40 ?_
        refine lv_iload_n C.1 C.2.1 dX2_coefficient_43 rfl (lv_at hl 1 rfl) ?_
        refine lv_iload_n C.1 C.2.1 dX2_coefficient_44 rfl (lv_at hl 2 rfl) ?_
        refine lv_iload_n C.1 C.2.1 dX2_coefficient_45 rfl (lv_at hl 3 rfl) ?_
        obtain ⟨M46, h46, h⟩ := bind_s h
        refine k_cv (k_runV (As := [.int x1, .int x2, .int x3]) C cf_X1_setFactor cv_X1_setFactor w_363 rc1 (c_X1_setFactor θ l N h46) ⟨rfl, rfl, Nat.le_of_ble_eq_true rfl, Nat.le_of_ble_eq_true rfl⟩ rfl hl.1 rfl (Nat.le_of_ble_eq_true rfl) dX2_coefficient_46 ⟨Nat.zero_le _, Nat.zero_le _⟩ hw) hS (fun H locs hw hS => ?_)
        refine lv_aload_n C.1 C.2.1 dX2_coefficient_49 rfl (lv_at hl 0 rfl) ?_
        refine gf_X2_cone C hw w_130 dX2_coefficient_50 ?_
        obtain ⟨M53, h53, h⟩ := bind_s h
        refine k_cv (k_runV (As := []) C cf_X0_forget cv_X0_forget w_325 rc2 (c_X0_forget θ l N h53) ⟨rfl, rfl, Nat.le_of_ble_eq_true rfl, Nat.le_of_ble_eq_true rfl⟩ rfl hl.1 rfl (Nat.le_of_ble_eq_true rfl) dX2_coefficient_53 ⟨Nat.zero_le _, Nat.zero_le _⟩ hw) hS (fun H locs hw hS => ?_)
        cases h
        exact x_retv C hw hS dX2_coefficient_56
      · have h := it_t c28 h
        cases h
        exact k_throw C ZX.1 ZX.2.1 ZX.2.2 hw hS th_RX2_27_29 hl.1 dX2_coefficient_31 dX2_coefficient_34 dX2_coefficient_35 dX2_coefficient_38 ⟨Nat.le_of_ble_eq_true rfl, Nat.le_of_ble_eq_true rfl, Nat.le_of_ble_eq_true rfl, Nat.le_of_ble_eq_true rfl⟩
    · have h := it_t c13 h
      cases h
      exact k_throw C ZX.1 ZX.2.1 ZX.2.2 hw hS th_RX2_44_46 hl.1 dX2_coefficient_16 dX2_coefficient_19 dX2_coefficient_20 dX2_coefficient_23 ⟨Nat.le_of_ble_eq_true rfl, Nat.le_of_ble_eq_true rfl, Nat.le_of_ble_eq_true rfl, Nat.le_of_ble_eq_true rfl⟩
def f_X2_coefficient (N : Nat) (x1 : Int32) (x2 : Int32) (x3 : Int32) (M : Mm) : Option ((Nat ⊕ Unit) × Mm) := b_X2_coefficient_0 N x1 x2 x3 M
set_option maxRecDepth 100000 in
theorem c_X2_coefficient (θ : Th) (l : Launch) (hl0 : l.stackTraces = false) (N : Nat) {x1 : Int32} {x2 : Int32} {x3 : Int32} {M : Mm} {r : (Nat ⊕ Unit)} {M1 : Mm} (h : f_X2_coefficient N x1 x2 x3 M = some (r, M1)) : vx_Met l yX2_coefficient (gws yX2_coefficient cX2_coefficient 4 none) rm_X2_coefficient (va_Pc [.ref (tad θ 0), .int x1, .int x2, .int x3] (wX θ M)) (yV θ r M1) (xX θ r M1) 1 6 (tA θ) :=
  x_met (by decide +kernel) (Nat.le_of_ble_eq_true rfl) (fun p e s m args below meth c C Z htab ls hl hw => t_X2_coefficient_0 C ⟨hl0, Z, htab⟩ N _ _ _ _ _ _ h _ _ ls (lv_sub hl [0, 1, 2, 3] rfl) hw va_S.rf)
abbrev rm_X2_row : Room := { frames := 6, cells := 1, slots := 6, locals := 89 }
def J_X2_row_0 (θ : Th) (p : Program) (l : Launch) (e : Env) (s : State) (m : MethodId) (args : Array Value) (below : List Frame) (meth : Method) (c : Code) (g : Int32 → Int32 → Int32 → Mm → Option ((Nat ⊕ Unit) × Mm)) : Prop := ∀ (x1 : Int32) (x2 : Int32) (x3 : Int32) (M : Mm) (r : (Nat ⊕ Unit)) (M1 : Mm), g x1 x2 x3 M = some (r, M1) → ∀ (H : Heap) (locs : List Loc) (ls : Array Slot), lv_has ls 4 [(0, .ref (tad θ 0)), (1, .int x1), (2, .int x2), (3, .int x3)] → wd θ M H → va_S (tA θ) s.heap H locs → W p l e rm_X2_row s m args below meth c H locs 0 0 (vx_MQ below (yV θ r M1) (xX θ r M1) args s 1 6 (tA θ)) (F0 m 0 ls [])
def b_X2_row_0 (N : Nat) (x1 : Int32) (x2 : Int32) (x3 : Int32) (M : Mm) : Option ((Nat ⊕ Unit) × Mm) :=
  (f_X2_hasRow N x1 M).bind fun (r2, M2) => (if r2 = 0 then some (.inl 2, M2) else (if x2 < 0 then some (.inl 0, M2) else (if 2 < x2 then some (.inl 0, M2) else (if x3 < (-50) then some (.inl 0, M2) else (if x3 ≤ 50 then (f_X1_setRow N x1 x2 x3 M2).bind fun M52 => (f_X0_forget N M52).bind fun M59 => some (.inr (), M59) else some (.inl 0, M2))))))
set_option maxRecDepth 100000 in
set_option maxHeartbeats 4000000 in
theorem t_X2_row_0 {θ : Th} {p : Program} {l : Launch} {e : Env} {s : State} {m : MethodId} {args : Array Value} {below : List Frame} {meth : Method} {c : Code} (C : Cx θ p s m args meth c cX2_row 4 RX2 none) (ZX : l.stackTraces = false ∧ zz θ s s.heap ∧ ∀ x ∈ c.exceptionTable.toList, False) (N : Nat) : J_X2_row_0 θ p l e s m args below meth c (b_X2_row_0 N) := by
  intro x1 x2 x3 M r M1 h H locs ls hl hw hS
  unfold b_X2_row_0 at h
  refine lv_aload_n C.1 C.2.1 dX2_row_0 rfl (lv_at hl 0 rfl) ?_
  refine lv_iload_n C.1 C.2.1 dX2_row_1 rfl (lv_at hl 1 rfl) ?_
  obtain ⟨⟨r2, M2⟩, h2, h⟩ := bind_s h
  dsimp only at h
  refine k_ci (k_runV (As := [.int x1]) C cf_X2_hasRow cv_X2_hasRow w_337 rc0 (c_X2_hasRow θ l N h2) ⟨rfl, rfl, Nat.le_of_ble_eq_true rfl, Nat.le_of_ble_eq_true rfl⟩ rfl hl.1 rfl (Nat.le_of_ble_eq_true rfl) dX2_row_2 ⟨Nat.zero_le _, Nat.zero_le _⟩ hw) hS (fun H locs hw hS => ?_)
  refine lv_if_ne (tgt := 16) C.1 C.2.1 dX2_row_5 (by decide) (fun c5 => ?_) (fun c5 => ?_)
  · have h := it_f c5 h
    refine lv_iload_n C.1 C.2.1 dX2_row_16 rfl (lv_at hl 2 rfl) ?_
    refine lv_if_lt (tgt := 37) C.1 C.2.1 dX2_row_17 (by decide) (fun c17 => ?_) (fun c17 => ?_)
    · have h := it_t c17 h
      cases h
      exact k_throw C ZX.1 ZX.2.1 ZX.2.2 hw hS th_RX2_27_29 hl.1 dX2_row_37 dX2_row_40 dX2_row_41 dX2_row_44 ⟨Nat.le_of_ble_eq_true rfl, Nat.le_of_ble_eq_true rfl, Nat.le_of_ble_eq_true rfl, Nat.le_of_ble_eq_true rfl⟩
    · have h := it_f c17 h
      refine lv_iload_n C.1 C.2.1 dX2_row_20 rfl (lv_at hl 2 rfl) ?_
      refine lv_iconst (v := 2) C.1 C.2.1 dX2_row_21 (by decide) ?_
      refine lv_icmp_gt (tgt := 37) C.1 C.2.1 dX2_row_22 (by decide) (fun c22 => ?_) (fun c22 => ?_)
      · have h := it_t c22 h
        cases h
        exact k_throw C ZX.1 ZX.2.1 ZX.2.2 hw hS th_RX2_27_29 hl.1 dX2_row_37 dX2_row_40 dX2_row_41 dX2_row_44 ⟨Nat.le_of_ble_eq_true rfl, Nat.le_of_ble_eq_true rfl, Nat.le_of_ble_eq_true rfl, Nat.le_of_ble_eq_true rfl⟩
      · have h := it_f c22 h
        refine lv_iload_n C.1 C.2.1 dX2_row_25 rfl (lv_at hl 3 rfl) ?_
        refine lv_bipush (v := (-50)) C.1 C.2.1 dX2_row_26 (by decide) ?_
        refine lv_icmp_lt (tgt := 37) C.1 C.2.1 dX2_row_28 (by decide) (fun c28 => ?_) (fun c28 => ?_)
        · have h := it_t c28 h
          cases h
          exact k_throw C ZX.1 ZX.2.1 ZX.2.2 hw hS th_RX2_27_29 hl.1 dX2_row_37 dX2_row_40 dX2_row_41 dX2_row_44 ⟨Nat.le_of_ble_eq_true rfl, Nat.le_of_ble_eq_true rfl, Nat.le_of_ble_eq_true rfl, Nat.le_of_ble_eq_true rfl⟩
        · have h := it_f c28 h
          refine lv_iload_n C.1 C.2.1 dX2_row_31 rfl (lv_at hl 3 rfl) ?_
          refine lv_bipush (v := 50) C.1 C.2.1 dX2_row_32 (by decide) ?_
          refine lv_icmp_le (tgt := 45) C.1 C.2.1 dX2_row_34 (by decide) (fun c34 => ?_) (fun c34 => ?_)
          · have h := it_t c34 h
            refine lv_aload_n C.1 C.2.1 dX2_row_45 rfl (lv_at hl 0 rfl) ?_
            refine gf_X2_sheet C hw w_129 dX2_row_46 ?_
            refine lv_iload_n C.1 C.2.1 dX2_row_49 rfl (lv_at hl 1 rfl) ?_
            refine lv_iload_n C.1 C.2.1 dX2_row_50 rfl (lv_at hl 2 rfl) ?_
            refine lv_iload_n C.1 C.2.1 dX2_row_51 rfl (lv_at hl 3 rfl) ?_
            obtain ⟨M52, h52, h⟩ := bind_s h
            refine k_cv (k_runV (As := [.int x1, .int x2, .int x3]) C cf_X1_setRow cv_X1_setRow w_374 rc1 (c_X1_setRow θ l N h52) ⟨rfl, rfl, Nat.le_of_ble_eq_true rfl, Nat.le_of_ble_eq_true rfl⟩ rfl hl.1 rfl (Nat.le_of_ble_eq_true rfl) dX2_row_52 ⟨Nat.zero_le _, Nat.zero_le _⟩ hw) hS (fun H locs hw hS => ?_)
            refine lv_aload_n C.1 C.2.1 dX2_row_55 rfl (lv_at hl 0 rfl) ?_
            refine gf_X2_cone C hw w_130 dX2_row_56 ?_
            obtain ⟨M59, h59, h⟩ := bind_s h
            refine k_cv (k_runV (As := []) C cf_X0_forget cv_X0_forget w_325 rc2 (c_X0_forget θ l N h59) ⟨rfl, rfl, Nat.le_of_ble_eq_true rfl, Nat.le_of_ble_eq_true rfl⟩ rfl hl.1 rfl (Nat.le_of_ble_eq_true rfl) dX2_row_59 ⟨Nat.zero_le _, Nat.zero_le _⟩ hw) hS (fun H locs hw hS => ?_)
            cases h
            exact x_retv C hw hS dX2_row_62
          · have h := it_f c34 h
            cases h
            exact k_throw C ZX.1 ZX.2.1 ZX.2.2 hw hS th_RX2_27_29 hl.1 dX2_row_37 dX2_row_40 dX2_row_41 dX2_row_44 ⟨Nat.le_of_ble_eq_true rfl, Nat.le_of_ble_eq_true rfl, Nat.le_of_ble_eq_true rfl, Nat.le_of_ble_eq_true rfl⟩
  · have h := it_t c5 h
    cases h
    exact k_throw C ZX.1 ZX.2.1 ZX.2.2 hw hS th_RX2_44_46 hl.1 dX2_row_8 dX2_row_11 dX2_row_12 dX2_row_15 ⟨Nat.le_of_ble_eq_true rfl, Nat.le_of_ble_eq_true rfl, Nat.le_of_ble_eq_true rfl, Nat.le_of_ble_eq_true rfl⟩
def f_X2_row (N : Nat) (x1 : Int32) (x2 : Int32) (x3 : Int32) (M : Mm) : Option ((Nat ⊕ Unit) × Mm) := b_X2_row_0 N x1 x2 x3 M
set_option maxRecDepth 100000 in
theorem c_X2_row (θ : Th) (l : Launch) (hl0 : l.stackTraces = false) (N : Nat) {x1 : Int32} {x2 : Int32} {x3 : Int32} {M : Mm} {r : (Nat ⊕ Unit)} {M1 : Mm} (h : f_X2_row N x1 x2 x3 M = some (r, M1)) : vx_Met l yX2_row (gws yX2_row cX2_row 4 none) rm_X2_row (va_Pc [.ref (tad θ 0), .int x1, .int x2, .int x3] (wX θ M)) (yV θ r M1) (xX θ r M1) 1 6 (tA θ) :=
  x_met (by decide +kernel) (Nat.le_of_ble_eq_true rfl) (fun p e s m args below meth c C Z htab ls hl hw => t_X2_row_0 C ⟨hl0, Z, htab⟩ N _ _ _ _ _ _ h _ _ ls (lv_sub hl [0, 1, 2, 3] rfl) hw va_S.rf)
abbrev rm_X2_want : Room := { frames := 6, cells := 1, slots := 6, locals := 89 }
def J_X2_want_0 (θ : Th) (p : Program) (l : Launch) (e : Env) (s : State) (m : MethodId) (args : Array Value) (below : List Frame) (meth : Method) (c : Code) (g : Int32 → Int32 → Mm → Option ((Nat ⊕ Unit) × Mm)) : Prop := ∀ (x1 : Int32) (x2 : Int32) (M : Mm) (r : (Nat ⊕ Unit)) (M1 : Mm), g x1 x2 M = some (r, M1) → ∀ (H : Heap) (locs : List Loc) (ls : Array Slot), lv_has ls 3 [(0, .ref (tad θ 0)), (1, .int x1), (2, .int x2)] → wd θ M H → va_S (tA θ) s.heap H locs → W p l e rm_X2_want s m args below meth c H locs 0 0 (vx_MQ below (yV θ r M1) (xX θ r M1) args s 1 6 (tA θ)) (F0 m 0 ls [])
def b_X2_want_0 (N : Nat) (x1 : Int32) (x2 : Int32) (M : Mm) : Option ((Nat ⊕ Unit) × Mm) :=
  (f_X2_hasVariable N x1 M).bind fun (r2, M2) => (if r2 = 0 then some (.inl 2, M2) else (f_X2_isFactor N x2 M2).bind fun (r17, M17) => (if r17 = 0 then some (.inl 0, M17) else (f_X1_setWant N x1 x2 M17).bind fun M37 => some (.inr (), M37)))
set_option maxRecDepth 100000 in
set_option maxHeartbeats 4000000 in
theorem t_X2_want_0 {θ : Th} {p : Program} {l : Launch} {e : Env} {s : State} {m : MethodId} {args : Array Value} {below : List Frame} {meth : Method} {c : Code} (C : Cx θ p s m args meth c cX2_want 3 RX2 none) (ZX : l.stackTraces = false ∧ zz θ s s.heap ∧ ∀ x ∈ c.exceptionTable.toList, False) (N : Nat) : J_X2_want_0 θ p l e s m args below meth c (b_X2_want_0 N) := by
  intro x1 x2 M r M1 h H locs ls hl hw hS
  unfold b_X2_want_0 at h
  refine lv_aload_n C.1 C.2.1 dX2_want_0 rfl (lv_at hl 0 rfl) ?_
  refine lv_iload_n C.1 C.2.1 dX2_want_1 rfl (lv_at hl 1 rfl) ?_
  obtain ⟨⟨r2, M2⟩, h2, h⟩ := bind_s h
  dsimp only at h
  refine k_ci (k_runV (As := [.int x1]) C cf_X2_hasVariable cv_X2_hasVariable w_341 rc0 (c_X2_hasVariable θ l N h2) ⟨rfl, rfl, Nat.le_of_ble_eq_true rfl, Nat.le_of_ble_eq_true rfl⟩ rfl hl.1 rfl (Nat.le_of_ble_eq_true rfl) dX2_want_2 ⟨Nat.zero_le _, Nat.zero_le _⟩ hw) hS (fun H locs hw hS => ?_)
  refine lv_if_ne (tgt := 16) C.1 C.2.1 dX2_want_5 (by decide) (fun c5 => ?_) (fun c5 => ?_)
  · have h := it_f c5 h
    refine lv_iload_n C.1 C.2.1 dX2_want_16 rfl (lv_at hl 2 rfl) ?_
    obtain ⟨⟨r17, M17⟩, h17, h⟩ := bind_s h
    dsimp only at h
    refine k_ci (k_runS (As := [.int x2]) C cf_X2_isFactor cs_X2_isFactor w_360 (c_X2_isFactor θ l N h17) ⟨rfl, rfl, Nat.le_of_ble_eq_true rfl, Nat.le_of_ble_eq_true rfl⟩ rfl hl.1 rfl (Nat.le_of_ble_eq_true rfl) dX2_want_17 ⟨Nat.zero_le _, Nat.zero_le _⟩ hw) hS (fun H locs hw hS => ?_)
    refine lv_if_ne (tgt := 31) C.1 C.2.1 dX2_want_20 (by decide) (fun c20 => ?_) (fun c20 => ?_)
    · have h := it_f c20 h
      refine lv_aload_n C.1 C.2.1 dX2_want_31 rfl (lv_at hl 0 rfl) ?_
      refine gf_X2_sheet C hw w_129 dX2_want_32 ?_
      refine lv_iload_n C.1 C.2.1 dX2_want_35 rfl (lv_at hl 1 rfl) ?_
      refine lv_iload_n C.1 C.2.1 dX2_want_36 rfl (lv_at hl 2 rfl) ?_
      obtain ⟨M37, h37, h⟩ := bind_s h
      refine k_cv (k_runV (As := [.int x1, .int x2]) C cf_X1_setWant cv_X1_setWant w_389 rc1 (c_X1_setWant θ l N h37) ⟨rfl, rfl, Nat.le_of_ble_eq_true rfl, Nat.le_of_ble_eq_true rfl⟩ rfl hl.1 rfl (Nat.le_of_ble_eq_true rfl) dX2_want_37 ⟨Nat.zero_le _, Nat.zero_le _⟩ hw) hS (fun H locs hw hS => ?_)
      cases h
      exact x_retv C hw hS dX2_want_40
    · have h := it_t c20 h
      cases h
      exact k_throw C ZX.1 ZX.2.1 ZX.2.2 hw hS th_RX2_27_29 hl.1 dX2_want_23 dX2_want_26 dX2_want_27 dX2_want_30 ⟨Nat.le_of_ble_eq_true rfl, Nat.le_of_ble_eq_true rfl, Nat.le_of_ble_eq_true rfl, Nat.le_of_ble_eq_true rfl⟩
  · have h := it_t c5 h
    cases h
    exact k_throw C ZX.1 ZX.2.1 ZX.2.2 hw hS th_RX2_44_46 hl.1 dX2_want_8 dX2_want_11 dX2_want_12 dX2_want_15 ⟨Nat.le_of_ble_eq_true rfl, Nat.le_of_ble_eq_true rfl, Nat.le_of_ble_eq_true rfl, Nat.le_of_ble_eq_true rfl⟩
def f_X2_want (N : Nat) (x1 : Int32) (x2 : Int32) (M : Mm) : Option ((Nat ⊕ Unit) × Mm) := b_X2_want_0 N x1 x2 M
set_option maxRecDepth 100000 in
theorem c_X2_want (θ : Th) (l : Launch) (hl0 : l.stackTraces = false) (N : Nat) {x1 : Int32} {x2 : Int32} {M : Mm} {r : (Nat ⊕ Unit)} {M1 : Mm} (h : f_X2_want N x1 x2 M = some (r, M1)) : vx_Met l yX2_want (gws yX2_want cX2_want 3 none) rm_X2_want (va_Pc [.ref (tad θ 0), .int x1, .int x2] (wX θ M)) (yV θ r M1) (xX θ r M1) 1 6 (tA θ) :=
  x_met (by decide +kernel) (Nat.le_of_ble_eq_true rfl) (fun p e s m args below meth c C Z htab ls hl hw => t_X2_want_0 C ⟨hl0, Z, htab⟩ N _ _ _ _ _ h _ _ ls (lv_sub hl [0, 1, 2] rfl) hw va_S.rf)
abbrev rm_X2_drift : Room := { frames := 6, cells := 1, slots := 6, locals := 89 }
def J_X2_drift_0 (θ : Th) (p : Program) (l : Launch) (e : Env) (s : State) (m : MethodId) (args : Array Value) (below : List Frame) (meth : Method) (c : Code) (g : Int32 → Int32 → Mm → Option ((Nat ⊕ Unit) × Mm)) : Prop := ∀ (x1 : Int32) (x2 : Int32) (M : Mm) (r : (Nat ⊕ Unit)) (M1 : Mm), g x1 x2 M = some (r, M1) → ∀ (H : Heap) (locs : List Loc) (ls : Array Slot), lv_has ls 3 [(0, .ref (tad θ 0)), (1, .int x1), (2, .int x2)] → wd θ M H → va_S (tA θ) s.heap H locs → W p l e rm_X2_drift s m args below meth c H locs 0 0 (vx_MQ below (yV θ r M1) (xX θ r M1) args s 1 6 (tA θ)) (F0 m 0 ls [])
def b_X2_drift_0 (N : Nat) (x1 : Int32) (x2 : Int32) (M : Mm) : Option ((Nat ⊕ Unit) × Mm) :=
  (f_X2_hasRow N x1 M).bind fun (r2, M2) => (if r2 = 0 then some (.inl 2, M2) else (f_X2_isFactor N x2 M2).bind fun (r17, M17) => (if r17 = 0 then some (.inl 0, M17) else (f_X1_setDrift N x1 x2 M17).bind fun M37 => (f_X0_forget N M37).bind fun M44 => some (.inr (), M44)))
set_option maxRecDepth 100000 in
set_option maxHeartbeats 4000000 in
theorem t_X2_drift_0 {θ : Th} {p : Program} {l : Launch} {e : Env} {s : State} {m : MethodId} {args : Array Value} {below : List Frame} {meth : Method} {c : Code} (C : Cx θ p s m args meth c cX2_drift 3 RX2 none) (ZX : l.stackTraces = false ∧ zz θ s s.heap ∧ ∀ x ∈ c.exceptionTable.toList, False) (N : Nat) : J_X2_drift_0 θ p l e s m args below meth c (b_X2_drift_0 N) := by
  intro x1 x2 M r M1 h H locs ls hl hw hS
  unfold b_X2_drift_0 at h
  refine lv_aload_n C.1 C.2.1 dX2_drift_0 rfl (lv_at hl 0 rfl) ?_
  refine lv_iload_n C.1 C.2.1 dX2_drift_1 rfl (lv_at hl 1 rfl) ?_
  obtain ⟨⟨r2, M2⟩, h2, h⟩ := bind_s h
  dsimp only at h
  refine k_ci (k_runV (As := [.int x1]) C cf_X2_hasRow cv_X2_hasRow w_337 rc0 (c_X2_hasRow θ l N h2) ⟨rfl, rfl, Nat.le_of_ble_eq_true rfl, Nat.le_of_ble_eq_true rfl⟩ rfl hl.1 rfl (Nat.le_of_ble_eq_true rfl) dX2_drift_2 ⟨Nat.zero_le _, Nat.zero_le _⟩ hw) hS (fun H locs hw hS => ?_)
  refine lv_if_ne (tgt := 16) C.1 C.2.1 dX2_drift_5 (by decide) (fun c5 => ?_) (fun c5 => ?_)
  · have h := it_f c5 h
    refine lv_iload_n C.1 C.2.1 dX2_drift_16 rfl (lv_at hl 2 rfl) ?_
    obtain ⟨⟨r17, M17⟩, h17, h⟩ := bind_s h
    dsimp only at h
    refine k_ci (k_runS (As := [.int x2]) C cf_X2_isFactor cs_X2_isFactor w_360 (c_X2_isFactor θ l N h17) ⟨rfl, rfl, Nat.le_of_ble_eq_true rfl, Nat.le_of_ble_eq_true rfl⟩ rfl hl.1 rfl (Nat.le_of_ble_eq_true rfl) dX2_drift_17 ⟨Nat.zero_le _, Nat.zero_le _⟩ hw) hS (fun H locs hw hS => ?_)
    refine lv_if_ne (tgt := 31) C.1 C.2.1 dX2_drift_20 (by decide) (fun c20 => ?_) (fun c20 => ?_)
    · have h := it_f c20 h
      refine lv_aload_n C.1 C.2.1 dX2_drift_31 rfl (lv_at hl 0 rfl) ?_
      refine gf_X2_sheet C hw w_129 dX2_drift_32 ?_
      refine lv_iload_n C.1 C.2.1 dX2_drift_35 rfl (lv_at hl 1 rfl) ?_
      refine lv_iload_n C.1 C.2.1 dX2_drift_36 rfl (lv_at hl 2 rfl) ?_
      obtain ⟨M37, h37, h⟩ := bind_s h
      refine k_cv (k_runV (As := [.int x1, .int x2]) C cf_X1_setDrift cv_X1_setDrift w_400 rc1 (c_X1_setDrift θ l N h37) ⟨rfl, rfl, Nat.le_of_ble_eq_true rfl, Nat.le_of_ble_eq_true rfl⟩ rfl hl.1 rfl (Nat.le_of_ble_eq_true rfl) dX2_drift_37 ⟨Nat.zero_le _, Nat.zero_le _⟩ hw) hS (fun H locs hw hS => ?_)
      refine lv_aload_n C.1 C.2.1 dX2_drift_40 rfl (lv_at hl 0 rfl) ?_
      refine gf_X2_cone C hw w_130 dX2_drift_41 ?_
      obtain ⟨M44, h44, h⟩ := bind_s h
      refine k_cv (k_runV (As := []) C cf_X0_forget cv_X0_forget w_325 rc2 (c_X0_forget θ l N h44) ⟨rfl, rfl, Nat.le_of_ble_eq_true rfl, Nat.le_of_ble_eq_true rfl⟩ rfl hl.1 rfl (Nat.le_of_ble_eq_true rfl) dX2_drift_44 ⟨Nat.zero_le _, Nat.zero_le _⟩ hw) hS (fun H locs hw hS => ?_)
      cases h
      exact x_retv C hw hS dX2_drift_47
    · have h := it_t c20 h
      cases h
      exact k_throw C ZX.1 ZX.2.1 ZX.2.2 hw hS th_RX2_27_29 hl.1 dX2_drift_23 dX2_drift_26 dX2_drift_27 dX2_drift_30 ⟨Nat.le_of_ble_eq_true rfl, Nat.le_of_ble_eq_true rfl, Nat.le_of_ble_eq_true rfl, Nat.le_of_ble_eq_true rfl⟩
  · have h := it_t c5 h
    cases h
    exact k_throw C ZX.1 ZX.2.1 ZX.2.2 hw hS th_RX2_44_46 hl.1 dX2_drift_8 dX2_drift_11 dX2_drift_12 dX2_drift_15 ⟨Nat.le_of_ble_eq_true rfl, Nat.le_of_ble_eq_true rfl, Nat.le_of_ble_eq_true rfl, Nat.le_of_ble_eq_true rfl⟩
def f_X2_drift (N : Nat) (x1 : Int32) (x2 : Int32) (M : Mm) : Option ((Nat ⊕ Unit) × Mm) := b_X2_drift_0 N x1 x2 M
set_option maxRecDepth 100000 in
theorem c_X2_drift (θ : Th) (l : Launch) (hl0 : l.stackTraces = false) (N : Nat) {x1 : Int32} {x2 : Int32} {M : Mm} {r : (Nat ⊕ Unit)} {M1 : Mm} (h : f_X2_drift N x1 x2 M = some (r, M1)) : vx_Met l yX2_drift (gws yX2_drift cX2_drift 3 none) rm_X2_drift (va_Pc [.ref (tad θ 0), .int x1, .int x2] (wX θ M)) (yV θ r M1) (xX θ r M1) 1 6 (tA θ) :=
  x_met (by decide +kernel) (Nat.le_of_ble_eq_true rfl) (fun p e s m args below meth c C Z htab ls hl hw => t_X2_drift_0 C ⟨hl0, Z, htab⟩ N _ _ _ _ _ h _ _ ls (lv_sub hl [0, 1, 2] rfl) hw va_S.rf)
abbrev rm_X2_value : Room := { frames := 6, cells := 1, slots := 6, locals := 147 }
def J_X2_value_0 (θ : Th) (p : Program) (l : Launch) (e : Env) (s : State) (m : MethodId) (args : Array Value) (below : List Frame) (meth : Method) (c : Code) (g : Int32 → Mm → Option ((Nat ⊕ Int64) × Mm)) : Prop := ∀ (x1 : Int32) (M : Mm) (r : (Nat ⊕ Int64)) (M1 : Mm), g x1 M = some (r, M1) → ∀ (H : Heap) (locs : List Loc) (ls : Array Slot), lv_has ls 3 [(0, .ref (tad θ 0)), (1, .int x1)] → wd θ M H → va_S (tA θ) s.heap H locs → W p l e rm_X2_value s m args below meth c H locs 0 0 (vx_MQ below (yL θ r M1) (xX θ r M1) args s 1 6 (tA θ)) (F0 m 0 ls [])
def b_X2_value_0 (N : Nat) (x1 : Int32) (M : Mm) : Option ((Nat ⊕ Int64) × Mm) :=
  (f_X2_solve N M).bind fun (r1, M1) => (if r1 = 0 then (f_X2_isPart N x1 M1).bind fun (r16, M16) => (if r16 = 0 then some (.inl 0, M16) else (f_X2_bestRay N M16).bind fun (r31, M31) => (f_X1_worth N r31 M31).bind fun (r40, M40) => (rL M40 r31 0).bind fun v45 => (f_X2_partOf N r40 v45 x1 M40).bind fun (r47, M47) => some (.inr r47, M47)) else some (.inl 1, M1))
set_option maxRecDepth 100000 in
set_option maxHeartbeats 4000000 in
theorem t_X2_value_0 {θ : Th} {p : Program} {l : Launch} {e : Env} {s : State} {m : MethodId} {args : Array Value} {below : List Frame} {meth : Method} {c : Code} (C : Cx θ p s m args meth c cX2_value 3 RX2 (some .long)) (ZX : l.stackTraces = false ∧ zz θ s s.heap ∧ ∀ x ∈ c.exceptionTable.toList, False) (N : Nat) : J_X2_value_0 θ p l e s m args below meth c (b_X2_value_0 N) := by
  intro x1 M r M1 h H locs ls hl hw hS
  unfold b_X2_value_0 at h
  refine lv_aload_n C.1 C.2.1 dX2_value_0 rfl (lv_at hl 0 rfl) ?_
  obtain ⟨⟨r1, M1⟩, h1, h⟩ := bind_s h
  dsimp only at h
  refine k_ci (k_runV (As := []) C cf_X2_solve cv_X2_solve w_412 rc0 (c_X2_solve θ l N h1) ⟨rfl, rfl, Nat.le_of_ble_eq_true rfl, Nat.le_of_ble_eq_true rfl⟩ rfl hl.1 rfl (Nat.le_of_ble_eq_true rfl) dX2_value_1 ⟨Nat.zero_le _, Nat.zero_le _⟩ hw) hS (fun H locs hw hS => ?_)
  refine lv_if_eq (tgt := 15) C.1 C.2.1 dX2_value_4 (by decide) (fun c4 => ?_) (fun c4 => ?_)
  · have h := it_t c4 h
    refine lv_iload_n C.1 C.2.1 dX2_value_15 rfl (lv_at hl 1 rfl) ?_
    obtain ⟨⟨r16, M16⟩, h16, h⟩ := bind_s h
    dsimp only at h
    refine k_ci (k_runS (As := [.int x1]) C cf_X2_isPart cs_X2_isPart w_428 (c_X2_isPart θ l N h16) ⟨rfl, rfl, Nat.le_of_ble_eq_true rfl, Nat.le_of_ble_eq_true rfl⟩ rfl hl.1 rfl (Nat.le_of_ble_eq_true rfl) dX2_value_16 ⟨Nat.zero_le _, Nat.zero_le _⟩ hw) hS (fun H locs hw hS => ?_)
    refine lv_if_ne (tgt := 30) C.1 C.2.1 dX2_value_19 (by decide) (fun c19 => ?_) (fun c19 => ?_)
    · have h := it_f c19 h
      refine lv_aload_n C.1 C.2.1 dX2_value_30 rfl (lv_at hl 0 rfl) ?_
      obtain ⟨⟨r31, M31⟩, h31, h⟩ := bind_s h
      dsimp only at h
      refine k_cr (k_runV (As := []) C cf_X2_bestRay cv_X2_bestRay w_431 rc0 (c_X2_bestRay θ l N h31) ⟨rfl, rfl, Nat.le_of_ble_eq_true rfl, Nat.le_of_ble_eq_true rfl⟩ rfl hl.1 rfl (Nat.le_of_ble_eq_true rfl) dX2_value_31 ⟨Nat.zero_le _, Nat.zero_le _⟩ hw) hS (fun H locs hw hS => ?_)
      refine lv_astore_n (lv' := [(2, .ref (tad θ (22 + r31))), (0, .ref (tad θ 0)), (1, .int x1)]) C.1 C.2.1 dX2_value_34 rfl hl (by decide) rfl (fun ls hl => ?_)
      refine lv_aload_n C.1 C.2.1 dX2_value_35 rfl (lv_at hl 1 rfl) ?_
      refine gf_X2_sheet C hw w_129 dX2_value_36 ?_
      refine lv_aload_n C.1 C.2.1 dX2_value_39 rfl (lv_at hl 0 rfl) ?_
      obtain ⟨⟨r40, M40⟩, h40, h⟩ := bind_s h
      dsimp only at h
      refine k_cl (k_runV (As := [.ref (tad θ (22 + r31))]) C cf_X1_worth cv_X1_worth w_211 rc1 (c_X1_worth θ l N h40) ⟨rfl, rfl, Nat.le_of_ble_eq_true rfl, Nat.le_of_ble_eq_true rfl⟩ rfl hl.1 rfl (Nat.le_of_ble_eq_true rfl) dX2_value_40 ⟨Nat.zero_le _, Nat.zero_le _⟩ hw) hS (fun H locs hw hS => ?_)
      refine lv_aload_n C.1 C.2.1 dX2_value_43 rfl (lv_at hl 0 rfl) ?_
      refine lv_iconst (v := 0) C.1 C.2.1 dX2_value_44 (by decide) ?_
      obtain ⟨v45, h45, h⟩ := bind_s h
      refine k_lald C hw r31 h45 dX2_value_45 ?_
      refine lv_iload_n C.1 C.2.1 dX2_value_46 rfl (lv_at hl 2 rfl) ?_
      obtain ⟨⟨r47, M47⟩, h47, h⟩ := bind_s h
      dsimp only at h
      refine k_cl (k_runS (As := [.long r40, .long v45, .int x1]) C cf_X2_partOf cs_X2_partOf w_440 (c_X2_partOf θ l N h47) ⟨rfl, rfl, Nat.le_of_ble_eq_true rfl, Nat.le_of_ble_eq_true rfl⟩ rfl hl.1 rfl (Nat.le_of_ble_eq_true rfl) dX2_value_47 ⟨Nat.zero_le _, Nat.zero_le _⟩ hw) hS (fun H locs hw hS => ?_)
      cases h
      exact x_retl C hw hS dX2_value_50
    · have h := it_t c19 h
      cases h
      exact k_throw C ZX.1 ZX.2.1 ZX.2.2 hw hS th_RX2_27_29 hl.1 dX2_value_22 dX2_value_25 dX2_value_26 dX2_value_29 ⟨Nat.le_of_ble_eq_true rfl, Nat.le_of_ble_eq_true rfl, Nat.le_of_ble_eq_true rfl, Nat.le_of_ble_eq_true rfl⟩
  · have h := it_f c4 h
    cases h
    exact k_throw C ZX.1 ZX.2.1 ZX.2.2 hw hS th_RX2_77_79 hl.1 dX2_value_7 dX2_value_10 dX2_value_11 dX2_value_14 ⟨Nat.le_of_ble_eq_true rfl, Nat.le_of_ble_eq_true rfl, Nat.le_of_ble_eq_true rfl, Nat.le_of_ble_eq_true rfl⟩
def f_X2_value (N : Nat) (x1 : Int32) (M : Mm) : Option ((Nat ⊕ Int64) × Mm) := b_X2_value_0 N x1 M
set_option maxRecDepth 100000 in
theorem c_X2_value (θ : Th) (l : Launch) (hl0 : l.stackTraces = false) (N : Nat) {x1 : Int32} {M : Mm} {r : (Nat ⊕ Int64)} {M1 : Mm} (h : f_X2_value N x1 M = some (r, M1)) : vx_Met l yX2_value (gws yX2_value cX2_value 3 (some .long)) rm_X2_value (va_Pc [.ref (tad θ 0), .int x1] (wX θ M)) (yL θ r M1) (xX θ r M1) 1 6 (tA θ) :=
  x_met (by decide +kernel) (Nat.le_of_ble_eq_true rfl) (fun p e s m args below meth c C Z htab ls hl hw => t_X2_value_0 C ⟨hl0, Z, htab⟩ N _ _ _ _ h _ _ ls (lv_sub hl [0, 1] rfl) hw va_S.rf)
abbrev rm_X2_point : Room := { frames := 6, cells := 1, slots := 6, locals := 147 }
def J_X2_point_0 (θ : Th) (p : Program) (l : Launch) (e : Env) (s : State) (m : MethodId) (args : Array Value) (below : List Frame) (meth : Method) (c : Code) (g : Int32 → Int32 → Mm → Option ((Nat ⊕ Int64) × Mm)) : Prop := ∀ (x1 : Int32) (x2 : Int32) (M : Mm) (r : (Nat ⊕ Int64)) (M1 : Mm), g x1 x2 M = some (r, M1) → ∀ (H : Heap) (locs : List Loc) (ls : Array Slot), lv_has ls 4 [(0, .ref (tad θ 0)), (1, .int x1), (2, .int x2)] → wd θ M H → va_S (tA θ) s.heap H locs → W p l e rm_X2_point s m args below meth c H locs 0 0 (vx_MQ below (yL θ r M1) (xX θ r M1) args s 1 6 (tA θ)) (F0 m 0 ls [])
def b_X2_point_0 (N : Nat) (x1 : Int32) (x2 : Int32) (M : Mm) : Option ((Nat ⊕ Int64) × Mm) :=
  (f_X2_solve N M).bind fun (r1, M1) => (if r1 = 0 then (f_X2_hasVariable N x1 M1).bind fun (r17, M17) => (if r17 = 0 then some (.inl 2, M17) else (f_X2_isPart N x2 M17).bind fun (r32, M32) => (if r32 = 0 then some (.inl 0, M32) else (f_X2_bestRay N M32).bind fun (r47, M47) => (rL M47 r47 (2 + x1)).bind fun v55 => (rL M47 r47 0).bind fun v58 => (f_X2_partOf N v55 v58 x2 M47).bind fun (r60, M60) => some (.inr r60, M60))) else some (.inl 1, M1))
set_option maxRecDepth 100000 in
set_option maxHeartbeats 4000000 in
theorem t_X2_point_0 {θ : Th} {p : Program} {l : Launch} {e : Env} {s : State} {m : MethodId} {args : Array Value} {below : List Frame} {meth : Method} {c : Code} (C : Cx θ p s m args meth c cX2_point 4 RX2 (some .long)) (ZX : l.stackTraces = false ∧ zz θ s s.heap ∧ ∀ x ∈ c.exceptionTable.toList, False) (N : Nat) : J_X2_point_0 θ p l e s m args below meth c (b_X2_point_0 N) := by
  intro x1 x2 M r M1 h H locs ls hl hw hS
  unfold b_X2_point_0 at h
  refine lv_aload_n C.1 C.2.1 dX2_point_0 rfl (lv_at hl 0 rfl) ?_
  obtain ⟨⟨r1, M1⟩, h1, h⟩ := bind_s h
  dsimp only at h
  refine k_ci (k_runV (As := []) C cf_X2_solve cv_X2_solve w_412 rc0 (c_X2_solve θ l N h1) ⟨rfl, rfl, Nat.le_of_ble_eq_true rfl, Nat.le_of_ble_eq_true rfl⟩ rfl hl.1 rfl (Nat.le_of_ble_eq_true rfl) dX2_point_1 ⟨Nat.zero_le _, Nat.zero_le _⟩ hw) hS (fun H locs hw hS => ?_)
  refine lv_if_eq (tgt := 15) C.1 C.2.1 dX2_point_4 (by decide) (fun c4 => ?_) (fun c4 => ?_)
  · have h := it_t c4 h
    refine lv_aload_n C.1 C.2.1 dX2_point_15 rfl (lv_at hl 0 rfl) ?_
    refine lv_iload_n C.1 C.2.1 dX2_point_16 rfl (lv_at hl 1 rfl) ?_
    obtain ⟨⟨r17, M17⟩, h17, h⟩ := bind_s h
    dsimp only at h
    refine k_ci (k_runV (As := [.int x1]) C cf_X2_hasVariable cv_X2_hasVariable w_341 rc0 (c_X2_hasVariable θ l N h17) ⟨rfl, rfl, Nat.le_of_ble_eq_true rfl, Nat.le_of_ble_eq_true rfl⟩ rfl hl.1 rfl (Nat.le_of_ble_eq_true rfl) dX2_point_17 ⟨Nat.zero_le _, Nat.zero_le _⟩ hw) hS (fun H locs hw hS => ?_)
    refine lv_if_ne (tgt := 31) C.1 C.2.1 dX2_point_20 (by decide) (fun c20 => ?_) (fun c20 => ?_)
    · have h := it_f c20 h
      refine lv_iload_n C.1 C.2.1 dX2_point_31 rfl (lv_at hl 2 rfl) ?_
      obtain ⟨⟨r32, M32⟩, h32, h⟩ := bind_s h
      dsimp only at h
      refine k_ci (k_runS (As := [.int x2]) C cf_X2_isPart cs_X2_isPart w_428 (c_X2_isPart θ l N h32) ⟨rfl, rfl, Nat.le_of_ble_eq_true rfl, Nat.le_of_ble_eq_true rfl⟩ rfl hl.1 rfl (Nat.le_of_ble_eq_true rfl) dX2_point_32 ⟨Nat.zero_le _, Nat.zero_le _⟩ hw) hS (fun H locs hw hS => ?_)
      refine lv_if_ne (tgt := 46) C.1 C.2.1 dX2_point_35 (by decide) (fun c35 => ?_) (fun c35 => ?_)
      · have h := it_f c35 h
        refine lv_aload_n C.1 C.2.1 dX2_point_46 rfl (lv_at hl 0 rfl) ?_
        obtain ⟨⟨r47, M47⟩, h47, h⟩ := bind_s h
        dsimp only at h
        refine k_cr (k_runV (As := []) C cf_X2_bestRay cv_X2_bestRay w_431 rc0 (c_X2_bestRay θ l N h47) ⟨rfl, rfl, Nat.le_of_ble_eq_true rfl, Nat.le_of_ble_eq_true rfl⟩ rfl hl.1 rfl (Nat.le_of_ble_eq_true rfl) dX2_point_47 ⟨Nat.zero_le _, Nat.zero_le _⟩ hw) hS (fun H locs hw hS => ?_)
        refine lv_astore_n (lv' := [(3, .ref (tad θ (22 + r47))), (0, .ref (tad θ 0)), (1, .int x1), (2, .int x2)]) C.1 C.2.1 dX2_point_50 rfl hl (by decide) rfl (fun ls hl => ?_)
        refine lv_aload_n C.1 C.2.1 dX2_point_51 rfl (lv_at hl 0 rfl) ?_
        refine lv_iconst (v := 2) C.1 C.2.1 dX2_point_52 (by decide) ?_
        refine lv_iload_n C.1 C.2.1 dX2_point_53 rfl (lv_at hl 2 rfl) ?_
        refine lv_iadd C.1 C.2.1 dX2_point_54 ?_
        obtain ⟨v55, h55, h⟩ := bind_s h
        refine k_lald C hw r47 h55 dX2_point_55 ?_
        refine lv_aload_n C.1 C.2.1 dX2_point_56 rfl (lv_at hl 0 rfl) ?_
        refine lv_iconst (v := 0) C.1 C.2.1 dX2_point_57 (by decide) ?_
        obtain ⟨v58, h58, h⟩ := bind_s h
        refine k_lald C hw r47 h58 dX2_point_58 ?_
        refine lv_iload_n C.1 C.2.1 dX2_point_59 rfl (lv_at hl 3 rfl) ?_
        obtain ⟨⟨r60, M60⟩, h60, h⟩ := bind_s h
        dsimp only at h
        refine k_cl (k_runS (As := [.long v55, .long v58, .int x2]) C cf_X2_partOf cs_X2_partOf w_440 (c_X2_partOf θ l N h60) ⟨rfl, rfl, Nat.le_of_ble_eq_true rfl, Nat.le_of_ble_eq_true rfl⟩ rfl hl.1 rfl (Nat.le_of_ble_eq_true rfl) dX2_point_60 ⟨Nat.zero_le _, Nat.zero_le _⟩ hw) hS (fun H locs hw hS => ?_)
        cases h
        exact x_retl C hw hS dX2_point_63
      · have h := it_t c35 h
        cases h
        exact k_throw C ZX.1 ZX.2.1 ZX.2.2 hw hS th_RX2_27_29 hl.1 dX2_point_38 dX2_point_41 dX2_point_42 dX2_point_45 ⟨Nat.le_of_ble_eq_true rfl, Nat.le_of_ble_eq_true rfl, Nat.le_of_ble_eq_true rfl, Nat.le_of_ble_eq_true rfl⟩
    · have h := it_t c20 h
      cases h
      exact k_throw C ZX.1 ZX.2.1 ZX.2.2 hw hS th_RX2_44_46 hl.1 dX2_point_23 dX2_point_26 dX2_point_27 dX2_point_30 ⟨Nat.le_of_ble_eq_true rfl, Nat.le_of_ble_eq_true rfl, Nat.le_of_ble_eq_true rfl, Nat.le_of_ble_eq_true rfl⟩
  · have h := it_f c4 h
    cases h
    exact k_throw C ZX.1 ZX.2.1 ZX.2.2 hw hS th_RX2_77_79 hl.1 dX2_point_7 dX2_point_10 dX2_point_11 dX2_point_14 ⟨Nat.le_of_ble_eq_true rfl, Nat.le_of_ble_eq_true rfl, Nat.le_of_ble_eq_true rfl, Nat.le_of_ble_eq_true rfl⟩
def f_X2_point (N : Nat) (x1 : Int32) (x2 : Int32) (M : Mm) : Option ((Nat ⊕ Int64) × Mm) := b_X2_point_0 N x1 x2 M
set_option maxRecDepth 100000 in
theorem c_X2_point (θ : Th) (l : Launch) (hl0 : l.stackTraces = false) (N : Nat) {x1 : Int32} {x2 : Int32} {M : Mm} {r : (Nat ⊕ Int64)} {M1 : Mm} (h : f_X2_point N x1 x2 M = some (r, M1)) : vx_Met l yX2_point (gws yX2_point cX2_point 4 (some .long)) rm_X2_point (va_Pc [.ref (tad θ 0), .int x1, .int x2] (wX θ M)) (yL θ r M1) (xX θ r M1) 1 6 (tA θ) :=
  x_met (by decide +kernel) (Nat.le_of_ble_eq_true rfl) (fun p e s m args below meth c C Z htab ls hl hw => t_X2_point_0 C ⟨hl0, Z, htab⟩ N _ _ _ _ _ h _ _ ls (lv_sub hl [0, 1, 2] rfl) hw va_S.rf)
abbrev rm_X2_range : Room := { frames := 6, cells := 1, slots := 6, locals := 147 }
def J_X2_range_67 (θ : Th) (p : Program) (l : Launch) (e : Env) (s : State) (m : MethodId) (args : Array Value) (below : List Frame) (meth : Method) (c : Code) (g : Int32 → Int32 → Int32 → Mm → Option ((Nat ⊕ Int64) × Mm)) : Prop := ∀ (x1 : Int32) (x2 : Int32) (x3 : Int32) (M : Mm) (r : (Nat ⊕ Int64)) (M1 : Mm), g x1 x2 x3 M = some (r, M1) → ∀ (H : Heap) (locs : List Loc) (ls : Array Slot), lv_has ls 5 [(0, .ref (tad θ 0)), (1, .int x1), (2, .int x2), (3, .int x3)] → wd θ M H → va_S (tA θ) s.heap H locs → W p l e rm_X2_range s m args below meth c H locs 0 0 (vx_MQ below (yL θ r M1) (xX θ r M1) args s 1 6 (tA θ)) (F0 m 67 ls [])
def J_X2_range_0 (θ : Th) (p : Program) (l : Launch) (e : Env) (s : State) (m : MethodId) (args : Array Value) (below : List Frame) (meth : Method) (c : Code) (g : Int32 → Int32 → Int32 → Mm → Option ((Nat ⊕ Int64) × Mm)) : Prop := ∀ (x1 : Int32) (x2 : Int32) (x3 : Int32) (M : Mm) (r : (Nat ⊕ Int64)) (M1 : Mm), g x1 x2 x3 M = some (r, M1) → ∀ (H : Heap) (locs : List Loc) (ls : Array Slot), lv_has ls 5 [(0, .ref (tad θ 0)), (1, .int x1), (2, .int x2), (3, .int x3)] → wd θ M H → va_S (tA θ) s.heap H locs → W p l e rm_X2_range s m args below meth c H locs 0 0 (vx_MQ below (yL θ r M1) (xX θ r M1) args s 1 6 (tA θ)) (F0 m 0 ls [])
def b_X2_range_67 (N : Nat) (x1 : Int32) (x2 : Int32) (x3 : Int32) (M : Mm) : Option ((Nat ⊕ Int64) × Mm) :=
  (f_X2_extremeRay N x1 x2 M).bind fun (r70, M70) => (rL M70 r70 (2 + x1)).bind fun v80 => (rL M70 r70 0).bind fun v84 => (f_X2_partOf N v80 v84 x3 M70).bind fun (r86, M86) => some (.inr r86, M86)
set_option maxRecDepth 100000 in
set_option maxHeartbeats 4000000 in
theorem t_X2_range_67 {θ : Th} {p : Program} {l : Launch} {e : Env} {s : State} {m : MethodId} {args : Array Value} {below : List Frame} {meth : Method} {c : Code} (C : Cx θ p s m args meth c cX2_range 5 RX2 (some .long)) (ZX : l.stackTraces = false ∧ zz θ s s.heap ∧ ∀ x ∈ c.exceptionTable.toList, False) (N : Nat) : J_X2_range_67 θ p l e s m args below meth c (b_X2_range_67 N) := by
  intro x1 x2 x3 M r M1 h H locs ls hl hw hS
  unfold b_X2_range_67 at h
  refine lv_aload_n C.1 C.2.1 dX2_range_67 rfl (lv_at hl 0 rfl) ?_
  refine lv_iload_n C.1 C.2.1 dX2_range_68 rfl (lv_at hl 1 rfl) ?_
  refine lv_iload_n C.1 C.2.1 dX2_range_69 rfl (lv_at hl 2 rfl) ?_
  obtain ⟨⟨r70, M70⟩, h70, h⟩ := bind_s h
  dsimp only at h
  refine k_cr (k_runV (As := [.int x1, .int x2]) C cf_X2_extremeRay cv_X2_extremeRay w_486 rc0 (c_X2_extremeRay θ l N h70) ⟨rfl, rfl, Nat.le_of_ble_eq_true rfl, Nat.le_of_ble_eq_true rfl⟩ rfl hl.1 rfl (Nat.le_of_ble_eq_true rfl) dX2_range_70 ⟨Nat.zero_le _, Nat.zero_le _⟩ hw) hS (fun H locs hw hS => ?_)
  refine lv_astore (lv' := [(4, .ref (tad θ (22 + r70))), (0, .ref (tad θ 0)), (1, .int x1), (2, .int x2), (3, .int x3)]) C.1 C.2.1 dX2_range_73 hl (by decide) rfl (fun ls hl => ?_)
  refine lv_aload C.1 C.2.1 dX2_range_75 (lv_at hl 0 rfl) ?_
  refine lv_iconst (v := 2) C.1 C.2.1 dX2_range_77 (by decide) ?_
  refine lv_iload_n C.1 C.2.1 dX2_range_78 rfl (lv_at hl 2 rfl) ?_
  refine lv_iadd C.1 C.2.1 dX2_range_79 ?_
  obtain ⟨v80, h80, h⟩ := bind_s h
  refine k_lald C hw r70 h80 dX2_range_80 ?_
  refine lv_aload C.1 C.2.1 dX2_range_81 (lv_at hl 0 rfl) ?_
  refine lv_iconst (v := 0) C.1 C.2.1 dX2_range_83 (by decide) ?_
  obtain ⟨v84, h84, h⟩ := bind_s h
  refine k_lald C hw r70 h84 dX2_range_84 ?_
  refine lv_iload_n C.1 C.2.1 dX2_range_85 rfl (lv_at hl 4 rfl) ?_
  obtain ⟨⟨r86, M86⟩, h86, h⟩ := bind_s h
  dsimp only at h
  refine k_cl (k_runS (As := [.long v80, .long v84, .int x3]) C cf_X2_partOf cs_X2_partOf w_440 (c_X2_partOf θ l N h86) ⟨rfl, rfl, Nat.le_of_ble_eq_true rfl, Nat.le_of_ble_eq_true rfl⟩ rfl hl.1 rfl (Nat.le_of_ble_eq_true rfl) dX2_range_86 ⟨Nat.zero_le _, Nat.zero_le _⟩ hw) hS (fun H locs hw hS => ?_)
  cases h
  exact x_retl C hw hS dX2_range_89
def b_X2_range_0 (N : Nat) (x1 : Int32) (x2 : Int32) (x3 : Int32) (M : Mm) : Option ((Nat ⊕ Int64) × Mm) :=
  (f_X2_solve N M).bind fun (r1, M1) => (if r1 = 1 then some (.inl 1, M1) else (f_X2_hasVariable N x1 M1).bind fun (r18, M18) => (if r18 = 0 then some (.inl 2, M18) else (f_X2_isPart N x3 M18).bind fun (r33, M33) => (if r33 = 0 then some (.inl 0, M33) else (if x2 = 0 then b_X2_range_67 N x1 x2 x3 M33 else (f_X2_canGrow N x1 M33).bind fun (r53, M53) => (if r53 = 0 then b_X2_range_67 N x1 x2 x3 M53 else some (.inl 3, M53))))))
set_option maxRecDepth 100000 in
set_option maxHeartbeats 4000000 in
theorem t_X2_range_0 {θ : Th} {p : Program} {l : Launch} {e : Env} {s : State} {m : MethodId} {args : Array Value} {below : List Frame} {meth : Method} {c : Code} (C : Cx θ p s m args meth c cX2_range 5 RX2 (some .long)) (ZX : l.stackTraces = false ∧ zz θ s s.heap ∧ ∀ x ∈ c.exceptionTable.toList, False) (N : Nat) : J_X2_range_0 θ p l e s m args below meth c (b_X2_range_0 N) := by
  intro x1 x2 x3 M r M1 h H locs ls hl hw hS
  unfold b_X2_range_0 at h
  refine lv_aload_n C.1 C.2.1 dX2_range_0 rfl (lv_at hl 0 rfl) ?_
  obtain ⟨⟨r1, M1⟩, h1, h⟩ := bind_s h
  dsimp only at h
  refine k_ci (k_runV (As := []) C cf_X2_solve cv_X2_solve w_412 rc0 (c_X2_solve θ l N h1) ⟨rfl, rfl, Nat.le_of_ble_eq_true rfl, Nat.le_of_ble_eq_true rfl⟩ rfl hl.1 rfl (Nat.le_of_ble_eq_true rfl) dX2_range_1 ⟨Nat.zero_le _, Nat.zero_le _⟩ hw) hS (fun H locs hw hS => ?_)
  refine lv_iconst (v := 1) C.1 C.2.1 dX2_range_4 (by decide) ?_
  refine lv_icmp_ne (tgt := 16) C.1 C.2.1 dX2_range_5 (by decide) (fun c5 => ?_) (fun c5 => ?_)
  · have h := it_f c5 h
    refine lv_aload_n C.1 C.2.1 dX2_range_16 rfl (lv_at hl 0 rfl) ?_
    refine lv_iload_n C.1 C.2.1 dX2_range_17 rfl (lv_at hl 1 rfl) ?_
    obtain ⟨⟨r18, M18⟩, h18, h⟩ := bind_s h
    dsimp only at h
    refine k_ci (k_runV (As := [.int x1]) C cf_X2_hasVariable cv_X2_hasVariable w_341 rc0 (c_X2_hasVariable θ l N h18) ⟨rfl, rfl, Nat.le_of_ble_eq_true rfl, Nat.le_of_ble_eq_true rfl⟩ rfl hl.1 rfl (Nat.le_of_ble_eq_true rfl) dX2_range_18 ⟨Nat.zero_le _, Nat.zero_le _⟩ hw) hS (fun H locs hw hS => ?_)
    refine lv_if_ne (tgt := 32) C.1 C.2.1 dX2_range_21 (by decide) (fun c21 => ?_) (fun c21 => ?_)
    · have h := it_f c21 h
      refine lv_iload_n C.1 C.2.1 dX2_range_32 rfl (lv_at hl 3 rfl) ?_
      obtain ⟨⟨r33, M33⟩, h33, h⟩ := bind_s h
      dsimp only at h
      refine k_ci (k_runS (As := [.int x3]) C cf_X2_isPart cs_X2_isPart w_428 (c_X2_isPart θ l N h33) ⟨rfl, rfl, Nat.le_of_ble_eq_true rfl, Nat.le_of_ble_eq_true rfl⟩ rfl hl.1 rfl (Nat.le_of_ble_eq_true rfl) dX2_range_33 ⟨Nat.zero_le _, Nat.zero_le _⟩ hw) hS (fun H locs hw hS => ?_)
      refine lv_if_ne (tgt := 47) C.1 C.2.1 dX2_range_36 (by decide) (fun c36 => ?_) (fun c36 => ?_)
      · have h := it_f c36 h
        refine lv_iload_n C.1 C.2.1 dX2_range_47 rfl (lv_at hl 2 rfl) ?_
        refine lv_if_eq (tgt := 67) C.1 C.2.1 dX2_range_48 (by decide) (fun c48 => ?_) (fun c48 => ?_)
        · have h := it_t c48 h
          exact t_X2_range_67 C ZX N _ _ _ _ _ _ h _ _ ls (lv_sub hl [0, 1, 2, 3] rfl) hw hS
        · have h := it_f c48 h
          refine lv_aload_n C.1 C.2.1 dX2_range_51 rfl (lv_at hl 0 rfl) ?_
          refine lv_iload_n C.1 C.2.1 dX2_range_52 rfl (lv_at hl 1 rfl) ?_
          obtain ⟨⟨r53, M53⟩, h53, h⟩ := bind_s h
          dsimp only at h
          refine k_ci (k_runV (As := [.int x1]) C cf_X2_canGrow cv_X2_canGrow w_467 rc0 (c_X2_canGrow θ l N h53) ⟨rfl, rfl, Nat.le_of_ble_eq_true rfl, Nat.le_of_ble_eq_true rfl⟩ rfl hl.1 rfl (Nat.le_of_ble_eq_true rfl) dX2_range_53 ⟨Nat.zero_le _, Nat.zero_le _⟩ hw) hS (fun H locs hw hS => ?_)
          refine lv_if_eq (tgt := 67) C.1 C.2.1 dX2_range_56 (by decide) (fun c56 => ?_) (fun c56 => ?_)
          · have h := it_t c56 h
            exact t_X2_range_67 C ZX N _ _ _ _ _ _ h _ _ ls (lv_sub hl [0, 1, 2, 3] rfl) hw hS
          · have h := it_f c56 h
            cases h
            exact k_throw C ZX.1 ZX.2.1 ZX.2.2 hw hS th_RX2_98_100 hl.1 dX2_range_59 dX2_range_62 dX2_range_63 dX2_range_66 ⟨Nat.le_of_ble_eq_true rfl, Nat.le_of_ble_eq_true rfl, Nat.le_of_ble_eq_true rfl, Nat.le_of_ble_eq_true rfl⟩
      · have h := it_t c36 h
        cases h
        exact k_throw C ZX.1 ZX.2.1 ZX.2.2 hw hS th_RX2_27_29 hl.1 dX2_range_39 dX2_range_42 dX2_range_43 dX2_range_46 ⟨Nat.le_of_ble_eq_true rfl, Nat.le_of_ble_eq_true rfl, Nat.le_of_ble_eq_true rfl, Nat.le_of_ble_eq_true rfl⟩
    · have h := it_t c21 h
      cases h
      exact k_throw C ZX.1 ZX.2.1 ZX.2.2 hw hS th_RX2_44_46 hl.1 dX2_range_24 dX2_range_27 dX2_range_28 dX2_range_31 ⟨Nat.le_of_ble_eq_true rfl, Nat.le_of_ble_eq_true rfl, Nat.le_of_ble_eq_true rfl, Nat.le_of_ble_eq_true rfl⟩
  · have h := it_t c5 h
    cases h
    exact k_throw C ZX.1 ZX.2.1 ZX.2.2 hw hS th_RX2_77_79 hl.1 dX2_range_8 dX2_range_11 dX2_range_12 dX2_range_15 ⟨Nat.le_of_ble_eq_true rfl, Nat.le_of_ble_eq_true rfl, Nat.le_of_ble_eq_true rfl, Nat.le_of_ble_eq_true rfl⟩
def f_X2_range (N : Nat) (x1 : Int32) (x2 : Int32) (x3 : Int32) (M : Mm) : Option ((Nat ⊕ Int64) × Mm) := b_X2_range_0 N x1 x2 x3 M
set_option maxRecDepth 100000 in
theorem c_X2_range (θ : Th) (l : Launch) (hl0 : l.stackTraces = false) (N : Nat) {x1 : Int32} {x2 : Int32} {x3 : Int32} {M : Mm} {r : (Nat ⊕ Int64)} {M1 : Mm} (h : f_X2_range N x1 x2 x3 M = some (r, M1)) : vx_Met l yX2_range (gws yX2_range cX2_range 5 (some .long)) rm_X2_range (va_Pc [.ref (tad θ 0), .int x1, .int x2, .int x3] (wX θ M)) (yL θ r M1) (xX θ r M1) 1 6 (tA θ) :=
  x_met (by decide +kernel) (Nat.le_of_ble_eq_true rfl) (fun p e s m args below meth c C Z htab ls hl hw => t_X2_range_0 C ⟨hl0, Z, htab⟩ N _ _ _ _ _ _ h _ _ ls (lv_sub hl [0, 1, 2, 3] rfl) hw va_S.rf)
abbrev rm_X2_tight : Room := { frames := 6, cells := 1, slots := 6, locals := 147 }
def J_X2_tight_0 (θ : Th) (p : Program) (l : Launch) (e : Env) (s : State) (m : MethodId) (args : Array Value) (below : List Frame) (meth : Method) (c : Code) (g : Int32 → Mm → Option ((Nat ⊕ Int32) × Mm)) : Prop := ∀ (x1 : Int32) (M : Mm) (r : (Nat ⊕ Int32)) (M1 : Mm), g x1 M = some (r, M1) → ∀ (H : Heap) (locs : List Loc) (ls : Array Slot), lv_has ls 2 [(0, .ref (tad θ 0)), (1, .int x1)] → wd θ M H → va_S (tA θ) s.heap H locs → W p l e rm_X2_tight s m args below meth c H locs 0 0 (vx_MQ below (yI θ r M1) (xX θ r M1) args s 1 6 (tA θ)) (F0 m 0 ls [])
def b_X2_tight_0 (N : Nat) (x1 : Int32) (M : Mm) : Option ((Nat ⊕ Int32) × Mm) :=
  (f_X2_solve N M).bind fun (r1, M1) => (if r1 = 0 then (f_X2_hasRow N x1 M1).bind fun (r17, M17) => (if r17 = 0 then some (.inl 2, M17) else (f_X2_isSharpInBest N x1 M17).bind fun (r33, M33) => (if r33 = 0 ∨ r33 = 1 then some (.inr r33, M33) else none)) else some (.inl 1, M1))
set_option maxRecDepth 100000 in
set_option maxHeartbeats 4000000 in
theorem t_X2_tight_0 {θ : Th} {p : Program} {l : Launch} {e : Env} {s : State} {m : MethodId} {args : Array Value} {below : List Frame} {meth : Method} {c : Code} (C : Cx θ p s m args meth c cX2_tight 2 RX2 (some .boolean)) (ZX : l.stackTraces = false ∧ zz θ s s.heap ∧ ∀ x ∈ c.exceptionTable.toList, False) (N : Nat) : J_X2_tight_0 θ p l e s m args below meth c (b_X2_tight_0 N) := by
  intro x1 M r M1 h H locs ls hl hw hS
  unfold b_X2_tight_0 at h
  refine lv_aload_n C.1 C.2.1 dX2_tight_0 rfl (lv_at hl 0 rfl) ?_
  obtain ⟨⟨r1, M1⟩, h1, h⟩ := bind_s h
  dsimp only at h
  refine k_ci (k_runV (As := []) C cf_X2_solve cv_X2_solve w_412 rc0 (c_X2_solve θ l N h1) ⟨rfl, rfl, Nat.le_of_ble_eq_true rfl, Nat.le_of_ble_eq_true rfl⟩ rfl hl.1 rfl (Nat.le_of_ble_eq_true rfl) dX2_tight_1 ⟨Nat.zero_le _, Nat.zero_le _⟩ hw) hS (fun H locs hw hS => ?_)
  refine lv_if_eq (tgt := 15) C.1 C.2.1 dX2_tight_4 (by decide) (fun c4 => ?_) (fun c4 => ?_)
  · have h := it_t c4 h
    refine lv_aload_n C.1 C.2.1 dX2_tight_15 rfl (lv_at hl 0 rfl) ?_
    refine lv_iload_n C.1 C.2.1 dX2_tight_16 rfl (lv_at hl 1 rfl) ?_
    obtain ⟨⟨r17, M17⟩, h17, h⟩ := bind_s h
    dsimp only at h
    refine k_ci (k_runV (As := [.int x1]) C cf_X2_hasRow cv_X2_hasRow w_337 rc0 (c_X2_hasRow θ l N h17) ⟨rfl, rfl, Nat.le_of_ble_eq_true rfl, Nat.le_of_ble_eq_true rfl⟩ rfl hl.1 rfl (Nat.le_of_ble_eq_true rfl) dX2_tight_17 ⟨Nat.zero_le _, Nat.zero_le _⟩ hw) hS (fun H locs hw hS => ?_)
    refine lv_if_ne (tgt := 31) C.1 C.2.1 dX2_tight_20 (by decide) (fun c20 => ?_) (fun c20 => ?_)
    · have h := it_f c20 h
      refine lv_aload_n C.1 C.2.1 dX2_tight_31 rfl (lv_at hl 0 rfl) ?_
      refine lv_iload_n C.1 C.2.1 dX2_tight_32 rfl (lv_at hl 1 rfl) ?_
      obtain ⟨⟨r33, M33⟩, h33, h⟩ := bind_s h
      dsimp only at h
      refine k_ci (k_runV (As := [.int x1]) C cf_X2_isSharpInBest cv_X2_isSharpInBest w_500 rc0 (c_X2_isSharpInBest θ l N h33) ⟨rfl, rfl, Nat.le_of_ble_eq_true rfl, Nat.le_of_ble_eq_true rfl⟩ rfl hl.1 rfl (Nat.le_of_ble_eq_true rfl) dX2_tight_33 ⟨Nat.zero_le _, Nat.zero_le _⟩ hw) hS (fun H locs hw hS => ?_)
      obtain ⟨hz36, h⟩ := it_z h
      cases h
      exact x_retz C hw hS hz36 dX2_tight_36
    · have h := it_t c20 h
      cases h
      exact k_throw C ZX.1 ZX.2.1 ZX.2.2 hw hS th_RX2_44_46 hl.1 dX2_tight_23 dX2_tight_26 dX2_tight_27 dX2_tight_30 ⟨Nat.le_of_ble_eq_true rfl, Nat.le_of_ble_eq_true rfl, Nat.le_of_ble_eq_true rfl, Nat.le_of_ble_eq_true rfl⟩
  · have h := it_f c4 h
    cases h
    exact k_throw C ZX.1 ZX.2.1 ZX.2.2 hw hS th_RX2_77_79 hl.1 dX2_tight_7 dX2_tight_10 dX2_tight_11 dX2_tight_14 ⟨Nat.le_of_ble_eq_true rfl, Nat.le_of_ble_eq_true rfl, Nat.le_of_ble_eq_true rfl, Nat.le_of_ble_eq_true rfl⟩
def f_X2_tight (N : Nat) (x1 : Int32) (M : Mm) : Option ((Nat ⊕ Int32) × Mm) := b_X2_tight_0 N x1 M
set_option maxRecDepth 100000 in
theorem c_X2_tight (θ : Th) (l : Launch) (hl0 : l.stackTraces = false) (N : Nat) {x1 : Int32} {M : Mm} {r : (Nat ⊕ Int32)} {M1 : Mm} (h : f_X2_tight N x1 M = some (r, M1)) : vx_Met l yX2_tight (gws yX2_tight cX2_tight 2 (some .boolean)) rm_X2_tight (va_Pc [.ref (tad θ 0), .int x1] (wX θ M)) (yI θ r M1) (xX θ r M1) 1 6 (tA θ) :=
  x_met (by decide +kernel) (Nat.le_of_ble_eq_true rfl) (fun p e s m args below meth c C Z htab ls hl hw => t_X2_tight_0 C ⟨hl0, Z, htab⟩ N _ _ _ _ h _ _ ls (lv_sub hl [0, 1] rfl) hw va_S.rf)
abbrev rm_X2_conflict : Room := { frames := 6, cells := 1, slots := 6, locals := 147 }
def J_X2_conflict_26 (θ : Th) (p : Program) (l : Launch) (e : Env) (s : State) (m : MethodId) (args : Array Value) (below : List Frame) (meth : Method) (c : Code) (g : Int32 → Int32 → Mm → Option ((Nat ⊕ Int32) × Mm)) : Prop := ∀ (x1 : Int32) (x2 : Int32) (M : Mm) (r : (Nat ⊕ Int32)) (M1 : Mm), g x1 x2 M = some (r, M1) → ∀ (H : Heap) (locs : List Loc) (ls : Array Slot), lv_has ls 4 [(0, .ref (tad θ 0)), (1, .int x1), (2, .int x2)] → wd θ M H → va_S (tA θ) s.heap H locs → W p l e rm_X2_conflict s m args below meth c H locs 0 0 (vx_MQ below (yI θ r M1) (xX θ r M1) args s 1 6 (tA θ)) (F0 m 26 ls [])
def J_X2_conflict_0 (θ : Th) (p : Program) (l : Launch) (e : Env) (s : State) (m : MethodId) (args : Array Value) (below : List Frame) (meth : Method) (c : Code) (g : Mm → Option ((Nat ⊕ Int32) × Mm)) : Prop := ∀ (M : Mm) (r : (Nat ⊕ Int32)) (M1 : Mm), g M = some (r, M1) → ∀ (H : Heap) (locs : List Loc) (ls : Array Slot), lv_has ls 4 [(0, .ref (tad θ 0))] → wd θ M H → va_S (tA θ) s.heap H locs → W p l e rm_X2_conflict s m args below meth c H locs 0 0 (vx_MQ below (yI θ r M1) (xX θ r M1) args s 1 6 (tA θ)) (F0 m 0 ls [])
def F_X2_conflict_26 (N : Nat) (k26 : Int32 → Int32 → Mm → Option ((Nat ⊕ Int32) × Mm)) (x1 : Int32) (x2 : Int32) (M : Mm) : Option ((Nat ⊕ Int32) × Mm) :=
  (if (M.1 1) ≤ x2 then some (.inr x1, M) else (f_X2_isFeasible N (x1 &&& ((1 <<< (x2 &&& 31)) ^^^ (-1))) M).bind fun (r47, M47) => (if r47 = 0 then k26 (x1 &&& ((1 <<< (x2 &&& 31)) ^^^ (-1))) (x2 + 1) M47 else k26 x1 (x2 + 1) M47))
abbrev b_X2_conflict_26 (N : Nat) : Int32 → Int32 → Mm → Option ((Nat ⊕ Int32) × Mm) := lpT (fun _ _ _ => none) (F_X2_conflict_26 N) N
set_option maxRecDepth 100000 in
set_option maxHeartbeats 4000000 in
theorem tF_X2_conflict_26 {θ : Th} {p : Program} {l : Launch} {e : Env} {s : State} {m : MethodId} {args : Array Value} {below : List Frame} {meth : Method} {c : Code} (C : Cx θ p s m args meth c cX2_conflict 4 RX2 (some .int)) (ZX : l.stackTraces = false ∧ zz θ s s.heap ∧ ∀ x ∈ c.exceptionTable.toList, False) (N : Nat) {k26 : Int32 → Int32 → Mm → Option ((Nat ⊕ Int32) × Mm)} (hk26 : J_X2_conflict_26 θ p l e s m args below meth c k26) : J_X2_conflict_26 θ p l e s m args below meth c (F_X2_conflict_26 N k26) := by
  intro x1 x2 M r M1 h H locs ls hl hw hS
  unfold F_X2_conflict_26 at h
  refine lv_iload_n C.1 C.2.1 dX2_conflict_26 rfl (lv_at hl 2 rfl) ?_
  refine lv_aload_n C.1 C.2.1 dX2_conflict_27 rfl (lv_at hl 0 rfl) ?_
  refine gf_X2_sheet C hw w_129 dX2_conflict_28 ?_
  refine gf_X1_rows C hw w_78 dX2_conflict_31 ?_
  refine lv_icmp_ge (tgt := 61) C.1 C.2.1 dX2_conflict_34 (by decide) (fun c34 => ?_) (fun c34 => ?_)
  · have h := it_t c34 h
    refine lv_iload_n C.1 C.2.1 dX2_conflict_61 rfl (lv_at hl 1 rfl) ?_
    cases h
    exact x_reti C hw hS dX2_conflict_62
  · have h := it_f c34 h
    refine lv_iload_n C.1 C.2.1 dX2_conflict_37 rfl (lv_at hl 1 rfl) ?_
    refine lv_iconst (v := 1) C.1 C.2.1 dX2_conflict_38 (by decide) ?_
    refine lv_iload_n C.1 C.2.1 dX2_conflict_39 rfl (lv_at hl 2 rfl) ?_
    refine lv_ishl C.1 C.2.1 dX2_conflict_40 ?_
    refine lv_iconst (v := (-1)) C.1 C.2.1 dX2_conflict_41 (by decide) ?_
    refine lv_ixor C.1 C.2.1 dX2_conflict_42 ?_
    refine lv_iand C.1 C.2.1 dX2_conflict_43 ?_
    refine lv_istore_n (lv' := [(3, .int (x1 &&& ((1 <<< (x2 &&& 31)) ^^^ (-1)))), (0, .ref (tad θ 0)), (1, .int x1), (2, .int x2)]) C.1 C.2.1 dX2_conflict_44 rfl hl (by decide) rfl (fun ls hl => ?_)
    refine lv_aload_n C.1 C.2.1 dX2_conflict_45 rfl (lv_at hl 1 rfl) ?_
    refine lv_iload_n C.1 C.2.1 dX2_conflict_46 rfl (lv_at hl 0 rfl) ?_
    obtain ⟨⟨r47, M47⟩, h47, h⟩ := bind_s h
    dsimp only at h
    refine k_ci (k_runV (As := [.int (x1 &&& ((1 <<< (x2 &&& 31)) ^^^ (-1)))]) C cf_X2_isFeasible cv_X2_isFeasible w_147 rc0 (c_X2_isFeasible θ l N h47) ⟨rfl, rfl, Nat.le_of_ble_eq_true rfl, Nat.le_of_ble_eq_true rfl⟩ rfl hl.1 rfl (Nat.le_of_ble_eq_true rfl) dX2_conflict_47 ⟨Nat.zero_le _, Nat.zero_le _⟩ hw) hS (fun H locs hw hS => ?_)
    refine lv_if_ne (tgt := 55) C.1 C.2.1 dX2_conflict_50 (by decide) (fun c50 => ?_) (fun c50 => ?_)
    · have h := it_f c50 h
      refine lv_iinc (v := (x2 + 1)) (lv' := [(2, .int (x2 + 1)), (3, .int (x1 &&& ((1 <<< (x2 &&& 31)) ^^^ (-1)))), (0, .ref (tad θ 0)), (1, .int x1)]) C.1 C.2.1 dX2_conflict_55 hl (k := 3) rfl rfl (by decide) rfl (fun ls hl => ?_)
      refine lv_goto (tgt := 26) C.1 C.2.1 dX2_conflict_58 (by decide) ?_
      exact hk26 _ _ _ _ _ h _ _ ls (lv_sub hl [2, 3, 0] rfl) hw hS
    · have h := it_t c50 h
      refine lv_iload_n C.1 C.2.1 dX2_conflict_53 rfl (lv_at hl 0 rfl) ?_
      refine lv_istore_n (lv' := [(1, .int (x1 &&& ((1 <<< (x2 &&& 31)) ^^^ (-1)))), (3, .int (x1 &&& ((1 <<< (x2 &&& 31)) ^^^ (-1)))), (0, .ref (tad θ 0)), (2, .int x2)]) C.1 C.2.1 dX2_conflict_54 rfl hl (by decide) rfl (fun ls hl => ?_)
      refine lv_iinc (v := (x2 + 1)) (lv' := [(2, .int (x2 + 1)), (1, .int (x1 &&& ((1 <<< (x2 &&& 31)) ^^^ (-1)))), (3, .int (x1 &&& ((1 <<< (x2 &&& 31)) ^^^ (-1)))), (0, .ref (tad θ 0))]) C.1 C.2.1 dX2_conflict_55 hl (k := 3) rfl rfl (by decide) rfl (fun ls hl => ?_)
      refine lv_goto (tgt := 26) C.1 C.2.1 dX2_conflict_58 (by decide) ?_
      exact hk26 _ _ _ _ _ h _ _ ls (lv_sub hl [3, 1, 0] rfl) hw hS
theorem t_X2_conflict_26 {θ : Th} {p : Program} {l : Launch} {e : Env} {s : State} {m : MethodId} {args : Array Value} {below : List Frame} {meth : Method} {c : Code} (C : Cx θ p s m args meth c cX2_conflict 4 RX2 (some .int)) (ZX : l.stackTraces = false ∧ zz θ s s.heap ∧ ∀ x ∈ c.exceptionTable.toList, False) (N : Nat) : J_X2_conflict_26 θ p l e s m args below meth c (b_X2_conflict_26 N) := lpT_ind (J := J_X2_conflict_26 θ p l e s m args below meth c) (fun _ _ _ _ _ h => by cases h) (fun k hk => tF_X2_conflict_26 C ZX N hk) N
def b_X2_conflict_0 (N : Nat) (M : Mm) : Option ((Nat ⊕ Int32) × Mm) :=
  (f_X2_solve N M).bind fun (r1, M1) => (if r1 = 1 then (f_X1_allRows N M1).bind fun (r20, M20) => b_X2_conflict_26 N r20 0 M20 else some (.inl 1, M1))
set_option maxRecDepth 100000 in
set_option maxHeartbeats 4000000 in
theorem t_X2_conflict_0 {θ : Th} {p : Program} {l : Launch} {e : Env} {s : State} {m : MethodId} {args : Array Value} {below : List Frame} {meth : Method} {c : Code} (C : Cx θ p s m args meth c cX2_conflict 4 RX2 (some .int)) (ZX : l.stackTraces = false ∧ zz θ s s.heap ∧ ∀ x ∈ c.exceptionTable.toList, False) (N : Nat) : J_X2_conflict_0 θ p l e s m args below meth c (b_X2_conflict_0 N) := by
  intro M r M1 h H locs ls hl hw hS
  unfold b_X2_conflict_0 at h
  refine lv_aload_n C.1 C.2.1 dX2_conflict_0 rfl (lv_at hl 0 rfl) ?_
  obtain ⟨⟨r1, M1⟩, h1, h⟩ := bind_s h
  dsimp only at h
  refine k_ci (k_runV (As := []) C cf_X2_solve cv_X2_solve w_412 rc0 (c_X2_solve θ l N h1) ⟨rfl, rfl, Nat.le_of_ble_eq_true rfl, Nat.le_of_ble_eq_true rfl⟩ rfl hl.1 rfl (Nat.le_of_ble_eq_true rfl) dX2_conflict_1 ⟨Nat.zero_le _, Nat.zero_le _⟩ hw) hS (fun H locs hw hS => ?_)
  refine lv_iconst (v := 1) C.1 C.2.1 dX2_conflict_4 (by decide) ?_
  refine lv_icmp_eq (tgt := 16) C.1 C.2.1 dX2_conflict_5 (by decide) (fun c5 => ?_) (fun c5 => ?_)
  · have h := it_t c5 h
    refine lv_aload_n C.1 C.2.1 dX2_conflict_16 rfl (lv_at hl 0 rfl) ?_
    refine gf_X2_sheet C hw w_129 dX2_conflict_17 ?_
    obtain ⟨⟨r20, M20⟩, h20, h⟩ := bind_s h
    dsimp only at h
    refine k_ci (k_runV (As := []) C cf_X1_allRows cv_X1_allRows w_143 rc1 (c_X1_allRows θ l N h20) ⟨rfl, rfl, Nat.le_of_ble_eq_true rfl, Nat.le_of_ble_eq_true rfl⟩ rfl hl.1 rfl (Nat.le_of_ble_eq_true rfl) dX2_conflict_20 ⟨Nat.zero_le _, Nat.zero_le _⟩ hw) hS (fun H locs hw hS => ?_)
    refine lv_istore_n (lv' := [(1, .int r20), (0, .ref (tad θ 0))]) C.1 C.2.1 dX2_conflict_23 rfl hl (by decide) rfl (fun ls hl => ?_)
    refine lv_iconst (v := 0) C.1 C.2.1 dX2_conflict_24 (by decide) ?_
    refine lv_istore_n (lv' := [(2, .int 0), (1, .int r20), (0, .ref (tad θ 0))]) C.1 C.2.1 dX2_conflict_25 rfl hl (by decide) rfl (fun ls hl => ?_)
    exact t_X2_conflict_26 C ZX N _ _ _ _ _ h _ _ ls (lv_sub hl [2, 1, 0] rfl) hw hS
  · have h := it_f c5 h
    cases h
    exact k_throw C ZX.1 ZX.2.1 ZX.2.2 hw hS th_RX2_77_79 hl.1 dX2_conflict_8 dX2_conflict_11 dX2_conflict_12 dX2_conflict_15 ⟨Nat.le_of_ble_eq_true rfl, Nat.le_of_ble_eq_true rfl, Nat.le_of_ble_eq_true rfl, Nat.le_of_ble_eq_true rfl⟩
def f_X2_conflict (N : Nat) (M : Mm) : Option ((Nat ⊕ Int32) × Mm) := b_X2_conflict_0 N M
set_option maxRecDepth 100000 in
theorem c_X2_conflict (θ : Th) (l : Launch) (hl0 : l.stackTraces = false) (N : Nat) {M : Mm} {r : (Nat ⊕ Int32)} {M1 : Mm} (h : f_X2_conflict N M = some (r, M1)) : vx_Met l yX2_conflict (gws yX2_conflict cX2_conflict 4 (some .int)) rm_X2_conflict (va_Pc [.ref (tad θ 0)] (wX θ M)) (yI θ r M1) (xX θ r M1) 1 6 (tA θ) :=
  x_met (by decide +kernel) (Nat.le_of_ble_eq_true rfl) (fun p e s m args below meth c C Z htab ls hl hw => t_X2_conflict_0 C ⟨hl0, Z, htab⟩ N _ _ _ h _ _ ls (lv_sub hl [0] rfl) hw va_S.rf)
abbrev rm_X2_corner : Room := { frames := 6, cells := 1, slots := 6, locals := 127 }
def J_X2_corner_0 (θ : Th) (p : Program) (l : Launch) (e : Env) (s : State) (m : MethodId) (args : Array Value) (below : List Frame) (meth : Method) (c : Code) (g : Int32 → Int32 → Mm → Option ((Nat ⊕ Int64) × Mm)) : Prop := ∀ (x1 : Int32) (x2 : Int32) (M : Mm) (r : (Nat ⊕ Int64)) (M1 : Mm), g x1 x2 M = some (r, M1) → ∀ (H : Heap) (locs : List Loc) (ls : Array Slot), lv_has ls 7 [(0, .ref (tad θ 0)), (1, .int x1), (2, .int x2)] → wd θ M H → va_S (tA θ) s.heap H locs → W p l e rm_X2_corner s m args below meth c H locs 0 0 (vx_MQ below (yL θ r M1) (xX θ r M1) args s 1 6 (tA θ)) (F0 m 0 ls [])
def b_X2_corner_0 (N : Nat) (x1 : Int32) (x2 : Int32) (M : Mm) : Option ((Nat ⊕ Int64) × Mm) :=
  (f_X2_traceBends N M).bind fun (r1, M1) => (if x1 < 0 then some (.inl 2, M1) else (if x1 < r1 then (if x2 < 0 then some (.inl 0, M1) else (if x2 ≤ 3 then (rA M1 5 x1).bind fun v51 => (rO 2 v51).bind fun v52 => (rL M1 v52 0).bind fun v58 => (rL M1 v52 1).bind fun v62 => (if 2 ≤ x2 then (f_X1_worth N v52 M1).bind fun (r88, M88) => (f_X2_partOf N r88 (v58 + v62) (x2 - 2) M88).bind fun (r96, M96) => some (.inr r96, M96) else (rL M1 v52 1).bind fun v74 => (f_X2_partOf N v74 (v58 + v62) x2 M1).bind fun (r78, M78) => some (.inr r78, M78)) else some (.inl 0, M1))) else some (.inl 2, M1)))
set_option maxRecDepth 100000 in
set_option maxHeartbeats 4000000 in
theorem t_X2_corner_0 {θ : Th} {p : Program} {l : Launch} {e : Env} {s : State} {m : MethodId} {args : Array Value} {below : List Frame} {meth : Method} {c : Code} (C : Cx θ p s m args meth c cX2_corner 7 RX2 (some .long)) (ZX : l.stackTraces = false ∧ zz θ s s.heap ∧ ∀ x ∈ c.exceptionTable.toList, False) (N : Nat) : J_X2_corner_0 θ p l e s m args below meth c (b_X2_corner_0 N) := by
  intro x1 x2 M r M1 h H locs ls hl hw hS
  unfold b_X2_corner_0 at h
  refine lv_aload_n C.1 C.2.1 dX2_corner_0 rfl (lv_at hl 0 rfl) ?_
  obtain ⟨⟨r1, M1⟩, h1, h⟩ := bind_s h
  dsimp only at h
  refine k_ci (k_runV (As := []) C cf_X2_traceBends cv_X2_traceBends w_219 rc0 (c_X2_traceBends θ l N h1) ⟨rfl, rfl, Nat.le_of_ble_eq_true rfl, Nat.le_of_ble_eq_true rfl⟩ rfl hl.1 rfl (Nat.le_of_ble_eq_true rfl) dX2_corner_1 ⟨Nat.zero_le _, Nat.zero_le _⟩ hw) hS (fun H locs hw hS => ?_)
  refine lv_istore_n (lv' := [(3, .int r1), (0, .ref (tad θ 0)), (1, .int x1), (2, .int x2)]) C.1 C.2.1 dX2_corner_4 rfl hl (by decide) rfl (fun ls hl => ?_)
  refine lv_iload_n C.1 C.2.1 dX2_corner_5 rfl (lv_at hl 2 rfl) ?_
  refine lv_if_lt (tgt := 14) C.1 C.2.1 dX2_corner_6 (by decide) (fun c6 => ?_) (fun c6 => ?_)
  · have h := it_t c6 h
    cases h
    exact k_throw C ZX.1 ZX.2.1 ZX.2.2 hw hS th_RX2_44_46 hl.1 dX2_corner_14 dX2_corner_17 dX2_corner_18 dX2_corner_21 ⟨Nat.le_of_ble_eq_true rfl, Nat.le_of_ble_eq_true rfl, Nat.le_of_ble_eq_true rfl, Nat.le_of_ble_eq_true rfl⟩
  · have h := it_f c6 h
    refine lv_iload_n C.1 C.2.1 dX2_corner_9 rfl (lv_at hl 2 rfl) ?_
    refine lv_iload_n C.1 C.2.1 dX2_corner_10 rfl (lv_at hl 0 rfl) ?_
    refine lv_icmp_lt (tgt := 22) C.1 C.2.1 dX2_corner_11 (by decide) (fun c11 => ?_) (fun c11 => ?_)
    · have h := it_t c11 h
      refine lv_iload_n C.1 C.2.1 dX2_corner_22 rfl (lv_at hl 3 rfl) ?_
      refine lv_if_lt (tgt := 31) C.1 C.2.1 dX2_corner_23 (by decide) (fun c23 => ?_) (fun c23 => ?_)
      · have h := it_t c23 h
        cases h
        exact k_throw C ZX.1 ZX.2.1 ZX.2.2 hw hS th_RX2_27_29 hl.1 dX2_corner_31 dX2_corner_34 dX2_corner_35 dX2_corner_38 ⟨Nat.le_of_ble_eq_true rfl, Nat.le_of_ble_eq_true rfl, Nat.le_of_ble_eq_true rfl, Nat.le_of_ble_eq_true rfl⟩
      · have h := it_f c23 h
        refine lv_iload_n C.1 C.2.1 dX2_corner_26 rfl (lv_at hl 3 rfl) ?_
        refine lv_iconst (v := 3) C.1 C.2.1 dX2_corner_27 (by decide) ?_
        refine lv_icmp_le (tgt := 39) C.1 C.2.1 dX2_corner_28 (by decide) (fun c28 => ?_) (fun c28 => ?_)
        · have h := it_t c28 h
          refine lv_aload_n C.1 C.2.1 dX2_corner_39 rfl (lv_at hl 1 rfl) ?_
          refine gf_X2_cone C hw w_130 dX2_corner_40 ?_
          refine gf_X0_rays C hw w_109 dX2_corner_43 ?_
          refine lv_aload_n C.1 C.2.1 dX2_corner_46 rfl (lv_at hl 1 rfl) ?_
          refine gf_X2_bends C hw w_131 dX2_corner_47 ?_
          refine lv_iload_n C.1 C.2.1 dX2_corner_50 rfl (lv_at hl 2 rfl) ?_
          obtain ⟨v51, h51, h⟩ := bind_s h
          refine k_iald C hw 5 (by decide) h51 dX2_corner_51 ?_
          obtain ⟨v52, h52, h⟩ := bind_s h
          refine k_aald C hw 2 (by decide) h52 dX2_corner_52 ?_
          refine lv_astore (lv' := [(4, .ref (tad θ (22 + v52))), (3, .int r1), (0, .ref (tad θ 0)), (1, .int x1), (2, .int x2)]) C.1 C.2.1 dX2_corner_53 hl (by decide) rfl (fun ls hl => ?_)
          refine lv_aload C.1 C.2.1 dX2_corner_55 (lv_at hl 0 rfl) ?_
          refine lv_iconst (v := 0) C.1 C.2.1 dX2_corner_57 (by decide) ?_
          obtain ⟨v58, h58, h⟩ := bind_s h
          refine k_lald C hw v52 h58 dX2_corner_58 ?_
          refine lv_aload C.1 C.2.1 dX2_corner_59 (lv_at hl 0 rfl) ?_
          refine lv_iconst (v := 1) C.1 C.2.1 dX2_corner_61 (by decide) ?_
          obtain ⟨v62, h62, h⟩ := bind_s h
          refine k_lald C hw v52 h62 dX2_corner_62 ?_
          refine lv_ladd C.1 C.2.1 dX2_corner_63 ?_
          refine lv_lstore (lv' := [(5, .long (v58 + v62)), (4, .ref (tad θ (22 + v52))), (3, .int r1), (0, .ref (tad θ 0)), (1, .int x1), (2, .int x2)]) C.1 C.2.1 dX2_corner_64 hl (by decide) rfl (fun ls hl => ?_)
          refine lv_iload_n C.1 C.2.1 dX2_corner_66 rfl (lv_at hl 5 rfl) ?_
          refine lv_iconst (v := 2) C.1 C.2.1 dX2_corner_67 (by decide) ?_
          refine lv_icmp_ge (tgt := 82) C.1 C.2.1 dX2_corner_68 (by decide) (fun c68 => ?_) (fun c68 => ?_)
          · have h := it_t c68 h
            refine lv_aload_n C.1 C.2.1 dX2_corner_82 rfl (lv_at hl 3 rfl) ?_
            refine gf_X2_sheet C hw w_129 dX2_corner_83 ?_
            refine lv_aload C.1 C.2.1 dX2_corner_86 (lv_at hl 1 rfl) ?_
            obtain ⟨⟨r88, M88⟩, h88, h⟩ := bind_s h
            dsimp only at h
            refine k_cl (k_runV (As := [.ref (tad θ (22 + v52))]) C cf_X1_worth cv_X1_worth w_211 rc1 (c_X1_worth θ l N h88) ⟨rfl, rfl, Nat.le_of_ble_eq_true rfl, Nat.le_of_ble_eq_true rfl⟩ rfl hl.1 rfl (Nat.le_of_ble_eq_true rfl) dX2_corner_88 ⟨Nat.zero_le _, Nat.zero_le _⟩ hw) hS (fun H locs hw hS => ?_)
            refine lv_lload C.1 C.2.1 dX2_corner_91 (lv_at hl 0 rfl) ?_
            refine lv_iload_n C.1 C.2.1 dX2_corner_93 rfl (lv_at hl 5 rfl) ?_
            refine lv_iconst (v := 2) C.1 C.2.1 dX2_corner_94 (by decide) ?_
            refine lv_isub C.1 C.2.1 dX2_corner_95 ?_
            obtain ⟨⟨r96, M96⟩, h96, h⟩ := bind_s h
            dsimp only at h
            refine k_cl (k_runS (As := [.long r88, .long (v58 + v62), .int (x2 - 2)]) C cf_X2_partOf cs_X2_partOf w_440 (c_X2_partOf θ l N h96) ⟨rfl, rfl, Nat.le_of_ble_eq_true rfl, Nat.le_of_ble_eq_true rfl⟩ rfl hl.1 rfl (Nat.le_of_ble_eq_true rfl) dX2_corner_96 ⟨Nat.zero_le _, Nat.zero_le _⟩ hw) hS (fun H locs hw hS => ?_)
            cases h
            exact x_retl C hw hS dX2_corner_99
          · have h := it_f c68 h
            refine lv_aload C.1 C.2.1 dX2_corner_71 (lv_at hl 1 rfl) ?_
            refine lv_iconst (v := 1) C.1 C.2.1 dX2_corner_73 (by decide) ?_
            obtain ⟨v74, h74, h⟩ := bind_s h
            refine k_lald C hw v52 h74 dX2_corner_74 ?_
            refine lv_lload C.1 C.2.1 dX2_corner_75 (lv_at hl 0 rfl) ?_
            refine lv_iload_n C.1 C.2.1 dX2_corner_77 rfl (lv_at hl 5 rfl) ?_
            obtain ⟨⟨r78, M78⟩, h78, h⟩ := bind_s h
            dsimp only at h
            refine k_cl (k_runS (As := [.long v74, .long (v58 + v62), .int x2]) C cf_X2_partOf cs_X2_partOf w_440 (c_X2_partOf θ l N h78) ⟨rfl, rfl, Nat.le_of_ble_eq_true rfl, Nat.le_of_ble_eq_true rfl⟩ rfl hl.1 rfl (Nat.le_of_ble_eq_true rfl) dX2_corner_78 ⟨Nat.zero_le _, Nat.zero_le _⟩ hw) hS (fun H locs hw hS => ?_)
            cases h
            exact x_retl C hw hS dX2_corner_81
        · have h := it_f c28 h
          cases h
          exact k_throw C ZX.1 ZX.2.1 ZX.2.2 hw hS th_RX2_27_29 hl.1 dX2_corner_31 dX2_corner_34 dX2_corner_35 dX2_corner_38 ⟨Nat.le_of_ble_eq_true rfl, Nat.le_of_ble_eq_true rfl, Nat.le_of_ble_eq_true rfl, Nat.le_of_ble_eq_true rfl⟩
    · have h := it_f c11 h
      cases h
      exact k_throw C ZX.1 ZX.2.1 ZX.2.2 hw hS th_RX2_44_46 hl.1 dX2_corner_14 dX2_corner_17 dX2_corner_18 dX2_corner_21 ⟨Nat.le_of_ble_eq_true rfl, Nat.le_of_ble_eq_true rfl, Nat.le_of_ble_eq_true rfl, Nat.le_of_ble_eq_true rfl⟩
def f_X2_corner (N : Nat) (x1 : Int32) (x2 : Int32) (M : Mm) : Option ((Nat ⊕ Int64) × Mm) := b_X2_corner_0 N x1 x2 M
set_option maxRecDepth 100000 in
theorem c_X2_corner (θ : Th) (l : Launch) (hl0 : l.stackTraces = false) (N : Nat) {x1 : Int32} {x2 : Int32} {M : Mm} {r : (Nat ⊕ Int64)} {M1 : Mm} (h : f_X2_corner N x1 x2 M = some (r, M1)) : vx_Met l yX2_corner (gws yX2_corner cX2_corner 7 (some .long)) rm_X2_corner (va_Pc [.ref (tad θ 0), .int x1, .int x2] (wX θ M)) (yL θ r M1) (xX θ r M1) 1 6 (tA θ) :=
  x_met (by decide +kernel) (Nat.le_of_ble_eq_true rfl) (fun p e s m args below meth c C Z htab ls hl hw => t_X2_corner_0 C ⟨hl0, Z, htab⟩ N _ _ _ _ _ h _ _ ls (lv_sub hl [0, 1, 2] rfl) hw va_S.rf)
