abbrev rm_L_begin : Room := { frames := 7, cells := 1, slots := 6, locals := 111 }
def f_L_begin (N : Nat) (x1 : Int32) (x2 : Int32) (M : Mm) : Option (Int32 × Mm) :=
  (f_X2_begin N x1 x2 M).bind fun (o3, M3) => match o3 with | .inl k => (if k = 0 then some (1, M3) else none) | .inr _ => some (0, M3)
set_option maxRecDepth 100000 in
set_option maxHeartbeats 4000000 in
theorem c_L_begin (θ : Th) (l : Launch) (hl0 : l.stackTraces = false) (N : Nat) {x1 : Int32} {x2 : Int32} {M : Mm} {r : Int32} {M1 : Mm} (h : f_L_begin N x1 x2 M = some (r, M1)) : Met l yL_begin (gwt yL_begin cL_begin 4 (some .int) [(0, 6, 9, 13)]) rm_L_begin (va_Pc [.ref (tad θ 0), .int x1, .int x2] (wX θ M)) (qI θ r M1) 1 6 (tA θ) := by
  unfold f_L_begin at h
  refine h_met (by decide +kernel) (Nat.le_of_ble_eq_true rfl) ?_
  intro p e s m args below meth c C Z htab ls hl hw
  have hS : va_S (tA θ) s.heap s.heap [] := va_S.rf
  have hl : lv_has ls 4 [(0, .ref (tad θ 0)), (1, .int x1), (2, .int x2)] := hl
  refine lv_aload_n C.1 C.2.1 dL_begin_0 rfl (lv_at hl 0 rfl) ?_
  refine lv_iload_n C.1 C.2.1 dL_begin_1 rfl (lv_at hl 1 rfl) ?_
  refine lv_iload_n C.1 C.2.1 dL_begin_2 rfl (lv_at hl 2 rfl) ?_
  obtain ⟨⟨o3, M3⟩, h3, h⟩ := bind_s h
  dsimp only at h
  refine kx_v (kx_run (As := [.int x1, .int x2]) C cf_X2_begin cv_X2_begin w_253 rc0 (c_X2_begin θ l hl0 N h3) ⟨rfl, rfl, Nat.le_of_ble_eq_true rfl, Nat.le_of_ble_eq_true rfl⟩ rfl hl.1 rfl (Nat.le_of_ble_eq_true rfl) dL_begin_3 ⟨Nat.le_of_ble_eq_true rfl, Nat.le_of_ble_eq_true rfl⟩ hw Z hS) hS (fun k ce q H locs ho hw hS hq hv hc => ?_) (fun H locs ho hw hS => ?_)
  · subst ho
    dsimp only at h
    by_cases e0 : k = 0
    · have h := it_t e0 h
      subst e0
      refine vx_catch (own := RL) (name := exn 0) (E := exn 0) C.2.2.2.1 [] ⟨0, 6, 9, 13⟩ [] htab (fun z hz => nomatch hz) rfl (by decide) (C.2.2.2.2.1 _ w_252) (bw_any (by decide +kernel) (Z.2.2.1 (.castable (exn 0) (exn 0)) (by decide +kernel))) hq hv hc ?_
      refine lv_astore_n (lv' := [(3, .ref q), (0, .ref (tad θ 0)), (1, .int x1), (2, .int x2)]) C.1 C.2.1 dL_begin_9 rfl hl (by decide) rfl (fun ls hl => ?_)
      refine lv_iconst (v := 1) C.1 C.2.1 dL_begin_10 (by decide) ?_
      cases h
      exact h_reti C hw hS dL_begin_11
    have h := it_f e0 h
    cases h
  · subst ho
    dsimp only at h
    refine lv_goto (tgt := 12) C.1 C.2.1 dL_begin_6 (by decide) ?_
    refine lv_iconst (v := 0) C.1 C.2.1 dL_begin_12 (by decide) ?_
    cases h
    exact h_reti C hw hS dL_begin_13
abbrev rm_L_coefficient : Room := { frames := 7, cells := 1, slots := 6, locals := 112 }
def f_L_coefficient (N : Nat) (x1 : Int32) (x2 : Int32) (x3 : Int32) (M : Mm) : Option (Int32 × Mm) :=
  (f_X2_coefficient N x1 x2 x3 M).bind fun (o4, M4) => match o4 with | .inl k => (if k = 2 then some (1, M4) else (if k = 0 then some (2, M4) else none)) | .inr _ => some (0, M4)
set_option maxRecDepth 100000 in
set_option maxHeartbeats 4000000 in
theorem c_L_coefficient (θ : Th) (l : Launch) (hl0 : l.stackTraces = false) (N : Nat) {x1 : Int32} {x2 : Int32} {x3 : Int32} {M : Mm} {r : Int32} {M1 : Mm} (h : f_L_coefficient N x1 x2 x3 M = some (r, M1)) : Met l yL_coefficient (gwt yL_coefficient cL_coefficient 5 (some .int) [(0, 7, 10, 19), (0, 7, 14, 13)]) rm_L_coefficient (va_Pc [.ref (tad θ 0), .int x1, .int x2, .int x3] (wX θ M)) (qI θ r M1) 1 6 (tA θ) := by
  unfold f_L_coefficient at h
  refine h_met (by decide +kernel) (Nat.le_of_ble_eq_true rfl) ?_
  intro p e s m args below meth c C Z htab ls hl hw
  have hS : va_S (tA θ) s.heap s.heap [] := va_S.rf
  have hl : lv_has ls 5 [(0, .ref (tad θ 0)), (1, .int x1), (2, .int x2), (3, .int x3)] := hl
  refine lv_aload_n C.1 C.2.1 dL_coefficient_0 rfl (lv_at hl 0 rfl) ?_
  refine lv_iload_n C.1 C.2.1 dL_coefficient_1 rfl (lv_at hl 1 rfl) ?_
  refine lv_iload_n C.1 C.2.1 dL_coefficient_2 rfl (lv_at hl 2 rfl) ?_
  refine lv_iload_n C.1 C.2.1 dL_coefficient_3 rfl (lv_at hl 3 rfl) ?_
  obtain ⟨⟨o4, M4⟩, h4, h⟩ := bind_s h
  dsimp only at h
  refine kx_v (kx_run (As := [.int x1, .int x2, .int x3]) C cf_X2_coefficient cv_X2_coefficient w_333 rc0 (c_X2_coefficient θ l hl0 N h4) ⟨rfl, rfl, Nat.le_of_ble_eq_true rfl, Nat.le_of_ble_eq_true rfl⟩ rfl hl.1 rfl (Nat.le_of_ble_eq_true rfl) dL_coefficient_4 ⟨Nat.le_of_ble_eq_true rfl, Nat.le_of_ble_eq_true rfl⟩ hw Z hS) hS (fun k ce q H locs ho hw hS hq hv hc => ?_) (fun H locs ho hw hS => ?_)
  · subst ho
    dsimp only at h
    by_cases e0 : k = 2
    · have h := it_t e0 h
      subst e0
      refine vx_catch (own := RL) (name := exn 2) (E := exn 2) C.2.2.2.1 [] ⟨0, 7, 10, 19⟩ [⟨0, 7, 14, 13⟩] htab (fun z hz => nomatch hz) rfl (by decide) (C.2.2.2.2.1 _ w_332) (bw_any (by decide +kernel) (Z.2.2.1 (.castable (exn 2) (exn 2)) (by decide +kernel))) hq hv hc ?_
      refine lv_astore (lv' := [(4, .ref q), (0, .ref (tad θ 0)), (1, .int x1), (2, .int x2), (3, .int x3)]) C.1 C.2.1 dL_coefficient_10 hl (by decide) rfl (fun ls hl => ?_)
      refine lv_iconst (v := 1) C.1 C.2.1 dL_coefficient_12 (by decide) ?_
      cases h
      exact h_reti C hw hS dL_coefficient_13
    have h := it_f e0 h
    by_cases e1 : k = 0
    · have h := it_t e1 h
      subst e1
      refine vx_catch (own := RL) (name := exn 0) (E := exn 0) C.2.2.2.1 [⟨0, 7, 10, 19⟩] ⟨0, 7, 14, 13⟩ [] htab (fun z hz => by
          simp only [List.mem_cons, List.not_mem_nil, or_false] at hz
          subst hz
          exact Or.inr ⟨by decide, exn 2, C.2.2.2.2.1 _ w_332, Z.2.2.2 (0, 2) (by decide)⟩) rfl (by decide) (C.2.2.2.2.1 _ w_252) (bw_any (by decide +kernel) (Z.2.2.1 (.castable (exn 0) (exn 0)) (by decide +kernel))) hq hv hc ?_
      refine lv_astore (lv' := [(4, .ref q), (0, .ref (tad θ 0)), (1, .int x1), (2, .int x2), (3, .int x3)]) C.1 C.2.1 dL_coefficient_14 hl (by decide) rfl (fun ls hl => ?_)
      refine lv_iconst (v := 2) C.1 C.2.1 dL_coefficient_16 (by decide) ?_
      cases h
      exact h_reti C hw hS dL_coefficient_17
    have h := it_f e1 h
    cases h
  · subst ho
    dsimp only at h
    refine lv_goto (tgt := 18) C.1 C.2.1 dL_coefficient_7 (by decide) ?_
    refine lv_iconst (v := 0) C.1 C.2.1 dL_coefficient_18 (by decide) ?_
    cases h
    exact h_reti C hw hS dL_coefficient_19
abbrev rm_L_row : Room := { frames := 7, cells := 1, slots := 6, locals := 112 }
def f_L_row (N : Nat) (x1 : Int32) (x2 : Int32) (x3 : Int32) (M : Mm) : Option (Int32 × Mm) :=
  (f_X2_row N x1 x2 x3 M).bind fun (o4, M4) => match o4 with | .inl k => (if k = 2 then some (1, M4) else (if k = 0 then some (2, M4) else none)) | .inr _ => some (0, M4)
set_option maxRecDepth 100000 in
set_option maxHeartbeats 4000000 in
theorem c_L_row (θ : Th) (l : Launch) (hl0 : l.stackTraces = false) (N : Nat) {x1 : Int32} {x2 : Int32} {x3 : Int32} {M : Mm} {r : Int32} {M1 : Mm} (h : f_L_row N x1 x2 x3 M = some (r, M1)) : Met l yL_row (gwt yL_row cL_row 5 (some .int) [(0, 7, 10, 19), (0, 7, 14, 13)]) rm_L_row (va_Pc [.ref (tad θ 0), .int x1, .int x2, .int x3] (wX θ M)) (qI θ r M1) 1 6 (tA θ) := by
  unfold f_L_row at h
  refine h_met (by decide +kernel) (Nat.le_of_ble_eq_true rfl) ?_
  intro p e s m args below meth c C Z htab ls hl hw
  have hS : va_S (tA θ) s.heap s.heap [] := va_S.rf
  have hl : lv_has ls 5 [(0, .ref (tad θ 0)), (1, .int x1), (2, .int x2), (3, .int x3)] := hl
  refine lv_aload_n C.1 C.2.1 dL_row_0 rfl (lv_at hl 0 rfl) ?_
  refine lv_iload_n C.1 C.2.1 dL_row_1 rfl (lv_at hl 1 rfl) ?_
  refine lv_iload_n C.1 C.2.1 dL_row_2 rfl (lv_at hl 2 rfl) ?_
  refine lv_iload_n C.1 C.2.1 dL_row_3 rfl (lv_at hl 3 rfl) ?_
  obtain ⟨⟨o4, M4⟩, h4, h⟩ := bind_s h
  dsimp only at h
  refine kx_v (kx_run (As := [.int x1, .int x2, .int x3]) C cf_X2_row cv_X2_row w_370 rc0 (c_X2_row θ l hl0 N h4) ⟨rfl, rfl, Nat.le_of_ble_eq_true rfl, Nat.le_of_ble_eq_true rfl⟩ rfl hl.1 rfl (Nat.le_of_ble_eq_true rfl) dL_row_4 ⟨Nat.le_of_ble_eq_true rfl, Nat.le_of_ble_eq_true rfl⟩ hw Z hS) hS (fun k ce q H locs ho hw hS hq hv hc => ?_) (fun H locs ho hw hS => ?_)
  · subst ho
    dsimp only at h
    by_cases e0 : k = 2
    · have h := it_t e0 h
      subst e0
      refine vx_catch (own := RL) (name := exn 2) (E := exn 2) C.2.2.2.1 [] ⟨0, 7, 10, 19⟩ [⟨0, 7, 14, 13⟩] htab (fun z hz => nomatch hz) rfl (by decide) (C.2.2.2.2.1 _ w_332) (bw_any (by decide +kernel) (Z.2.2.1 (.castable (exn 2) (exn 2)) (by decide +kernel))) hq hv hc ?_
      refine lv_astore (lv' := [(4, .ref q), (0, .ref (tad θ 0)), (1, .int x1), (2, .int x2), (3, .int x3)]) C.1 C.2.1 dL_row_10 hl (by decide) rfl (fun ls hl => ?_)
      refine lv_iconst (v := 1) C.1 C.2.1 dL_row_12 (by decide) ?_
      cases h
      exact h_reti C hw hS dL_row_13
    have h := it_f e0 h
    by_cases e1 : k = 0
    · have h := it_t e1 h
      subst e1
      refine vx_catch (own := RL) (name := exn 0) (E := exn 0) C.2.2.2.1 [⟨0, 7, 10, 19⟩] ⟨0, 7, 14, 13⟩ [] htab (fun z hz => by
          simp only [List.mem_cons, List.not_mem_nil, or_false] at hz
          subst hz
          exact Or.inr ⟨by decide, exn 2, C.2.2.2.2.1 _ w_332, Z.2.2.2 (0, 2) (by decide)⟩) rfl (by decide) (C.2.2.2.2.1 _ w_252) (bw_any (by decide +kernel) (Z.2.2.1 (.castable (exn 0) (exn 0)) (by decide +kernel))) hq hv hc ?_
      refine lv_astore (lv' := [(4, .ref q), (0, .ref (tad θ 0)), (1, .int x1), (2, .int x2), (3, .int x3)]) C.1 C.2.1 dL_row_14 hl (by decide) rfl (fun ls hl => ?_)
      refine lv_iconst (v := 2) C.1 C.2.1 dL_row_16 (by decide) ?_
      cases h
      exact h_reti C hw hS dL_row_17
    have h := it_f e1 h
    cases h
  · subst ho
    dsimp only at h
    refine lv_goto (tgt := 18) C.1 C.2.1 dL_row_7 (by decide) ?_
    refine lv_iconst (v := 0) C.1 C.2.1 dL_row_18 (by decide) ?_
    cases h
    exact h_reti C hw hS dL_row_19
abbrev rm_L_want : Room := { frames := 7, cells := 1, slots := 6, locals := 111 }
def f_L_want (N : Nat) (x1 : Int32) (x2 : Int32) (M : Mm) : Option (Int32 × Mm) :=
  (f_X2_want N x1 x2 M).bind fun (o3, M3) => match o3 with | .inl k => (if k = 2 then some (1, M3) else (if k = 0 then some (2, M3) else none)) | .inr _ => some (0, M3)
set_option maxRecDepth 100000 in
set_option maxHeartbeats 4000000 in
theorem c_L_want (θ : Th) (l : Launch) (hl0 : l.stackTraces = false) (N : Nat) {x1 : Int32} {x2 : Int32} {M : Mm} {r : Int32} {M1 : Mm} (h : f_L_want N x1 x2 M = some (r, M1)) : Met l yL_want (gwt yL_want cL_want 4 (some .int) [(0, 6, 9, 19), (0, 6, 12, 13)]) rm_L_want (va_Pc [.ref (tad θ 0), .int x1, .int x2] (wX θ M)) (qI θ r M1) 1 6 (tA θ) := by
  unfold f_L_want at h
  refine h_met (by decide +kernel) (Nat.le_of_ble_eq_true rfl) ?_
  intro p e s m args below meth c C Z htab ls hl hw
  have hS : va_S (tA θ) s.heap s.heap [] := va_S.rf
  have hl : lv_has ls 4 [(0, .ref (tad θ 0)), (1, .int x1), (2, .int x2)] := hl
  refine lv_aload_n C.1 C.2.1 dL_want_0 rfl (lv_at hl 0 rfl) ?_
  refine lv_iload_n C.1 C.2.1 dL_want_1 rfl (lv_at hl 1 rfl) ?_
  refine lv_iload_n C.1 C.2.1 dL_want_2 rfl (lv_at hl 2 rfl) ?_
  obtain ⟨⟨o3, M3⟩, h3, h⟩ := bind_s h
  dsimp only at h
  refine kx_v (kx_run (As := [.int x1, .int x2]) C cf_X2_want cv_X2_want w_385 rc0 (c_X2_want θ l hl0 N h3) ⟨rfl, rfl, Nat.le_of_ble_eq_true rfl, Nat.le_of_ble_eq_true rfl⟩ rfl hl.1 rfl (Nat.le_of_ble_eq_true rfl) dL_want_3 ⟨Nat.le_of_ble_eq_true rfl, Nat.le_of_ble_eq_true rfl⟩ hw Z hS) hS (fun k ce q H locs ho hw hS hq hv hc => ?_) (fun H locs ho hw hS => ?_)
  · subst ho
    dsimp only at h
    by_cases e0 : k = 2
    · have h := it_t e0 h
      subst e0
      refine vx_catch (own := RL) (name := exn 2) (E := exn 2) C.2.2.2.1 [] ⟨0, 6, 9, 19⟩ [⟨0, 6, 12, 13⟩] htab (fun z hz => nomatch hz) rfl (by decide) (C.2.2.2.2.1 _ w_332) (bw_any (by decide +kernel) (Z.2.2.1 (.castable (exn 2) (exn 2)) (by decide +kernel))) hq hv hc ?_
      refine lv_astore_n (lv' := [(3, .ref q), (0, .ref (tad θ 0)), (1, .int x1), (2, .int x2)]) C.1 C.2.1 dL_want_9 rfl hl (by decide) rfl (fun ls hl => ?_)
      refine lv_iconst (v := 1) C.1 C.2.1 dL_want_10 (by decide) ?_
      cases h
      exact h_reti C hw hS dL_want_11
    have h := it_f e0 h
    by_cases e1 : k = 0
    · have h := it_t e1 h
      subst e1
      refine vx_catch (own := RL) (name := exn 0) (E := exn 0) C.2.2.2.1 [⟨0, 6, 9, 19⟩] ⟨0, 6, 12, 13⟩ [] htab (fun z hz => by
          simp only [List.mem_cons, List.not_mem_nil, or_false] at hz
          subst hz
          exact Or.inr ⟨by decide, exn 2, C.2.2.2.2.1 _ w_332, Z.2.2.2 (0, 2) (by decide)⟩) rfl (by decide) (C.2.2.2.2.1 _ w_252) (bw_any (by decide +kernel) (Z.2.2.1 (.castable (exn 0) (exn 0)) (by decide +kernel))) hq hv hc ?_
      refine lv_astore_n (lv' := [(3, .ref q), (0, .ref (tad θ 0)), (1, .int x1), (2, .int x2)]) C.1 C.2.1 dL_want_12 rfl hl (by decide) rfl (fun ls hl => ?_)
      refine lv_iconst (v := 2) C.1 C.2.1 dL_want_13 (by decide) ?_
      cases h
      exact h_reti C hw hS dL_want_14
    have h := it_f e1 h
    cases h
  · subst ho
    dsimp only at h
    refine lv_goto (tgt := 15) C.1 C.2.1 dL_want_6 (by decide) ?_
    refine lv_iconst (v := 0) C.1 C.2.1 dL_want_15 (by decide) ?_
    cases h
    exact h_reti C hw hS dL_want_16
abbrev rm_L_drift : Room := { frames := 7, cells := 1, slots := 6, locals := 111 }
def f_L_drift (N : Nat) (x1 : Int32) (x2 : Int32) (M : Mm) : Option (Int32 × Mm) :=
  (f_X2_drift N x1 x2 M).bind fun (o3, M3) => match o3 with | .inl k => (if k = 2 then some (1, M3) else (if k = 0 then some (2, M3) else none)) | .inr _ => some (0, M3)
set_option maxRecDepth 100000 in
set_option maxHeartbeats 4000000 in
theorem c_L_drift (θ : Th) (l : Launch) (hl0 : l.stackTraces = false) (N : Nat) {x1 : Int32} {x2 : Int32} {M : Mm} {r : Int32} {M1 : Mm} (h : f_L_drift N x1 x2 M = some (r, M1)) : Met l yL_drift (gwt yL_drift cL_drift 4 (some .int) [(0, 6, 9, 19), (0, 6, 12, 13)]) rm_L_drift (va_Pc [.ref (tad θ 0), .int x1, .int x2] (wX θ M)) (qI θ r M1) 1 6 (tA θ) := by
  unfold f_L_drift at h
  refine h_met (by decide +kernel) (Nat.le_of_ble_eq_true rfl) ?_
  intro p e s m args below meth c C Z htab ls hl hw
  have hS : va_S (tA θ) s.heap s.heap [] := va_S.rf
  have hl : lv_has ls 4 [(0, .ref (tad θ 0)), (1, .int x1), (2, .int x2)] := hl
  refine lv_aload_n C.1 C.2.1 dL_drift_0 rfl (lv_at hl 0 rfl) ?_
  refine lv_iload_n C.1 C.2.1 dL_drift_1 rfl (lv_at hl 1 rfl) ?_
  refine lv_iload_n C.1 C.2.1 dL_drift_2 rfl (lv_at hl 2 rfl) ?_
  obtain ⟨⟨o3, M3⟩, h3, h⟩ := bind_s h
  dsimp only at h
  refine kx_v (kx_run (As := [.int x1, .int x2]) C cf_X2_drift cv_X2_drift w_396 rc0 (c_X2_drift θ l hl0 N h3) ⟨rfl, rfl, Nat.le_of_ble_eq_true rfl, Nat.le_of_ble_eq_true rfl⟩ rfl hl.1 rfl (Nat.le_of_ble_eq_true rfl) dL_drift_3 ⟨Nat.le_of_ble_eq_true rfl, Nat.le_of_ble_eq_true rfl⟩ hw Z hS) hS (fun k ce q H locs ho hw hS hq hv hc => ?_) (fun H locs ho hw hS => ?_)
  · subst ho
    dsimp only at h
    by_cases e0 : k = 2
    · have h := it_t e0 h
      subst e0
      refine vx_catch (own := RL) (name := exn 2) (E := exn 2) C.2.2.2.1 [] ⟨0, 6, 9, 19⟩ [⟨0, 6, 12, 13⟩] htab (fun z hz => nomatch hz) rfl (by decide) (C.2.2.2.2.1 _ w_332) (bw_any (by decide +kernel) (Z.2.2.1 (.castable (exn 2) (exn 2)) (by decide +kernel))) hq hv hc ?_
      refine lv_astore_n (lv' := [(3, .ref q), (0, .ref (tad θ 0)), (1, .int x1), (2, .int x2)]) C.1 C.2.1 dL_drift_9 rfl hl (by decide) rfl (fun ls hl => ?_)
      refine lv_iconst (v := 1) C.1 C.2.1 dL_drift_10 (by decide) ?_
      cases h
      exact h_reti C hw hS dL_drift_11
    have h := it_f e0 h
    by_cases e1 : k = 0
    · have h := it_t e1 h
      subst e1
      refine vx_catch (own := RL) (name := exn 0) (E := exn 0) C.2.2.2.1 [⟨0, 6, 9, 19⟩] ⟨0, 6, 12, 13⟩ [] htab (fun z hz => by
          simp only [List.mem_cons, List.not_mem_nil, or_false] at hz
          subst hz
          exact Or.inr ⟨by decide, exn 2, C.2.2.2.2.1 _ w_332, Z.2.2.2 (0, 2) (by decide)⟩) rfl (by decide) (C.2.2.2.2.1 _ w_252) (bw_any (by decide +kernel) (Z.2.2.1 (.castable (exn 0) (exn 0)) (by decide +kernel))) hq hv hc ?_
      refine lv_astore_n (lv' := [(3, .ref q), (0, .ref (tad θ 0)), (1, .int x1), (2, .int x2)]) C.1 C.2.1 dL_drift_12 rfl hl (by decide) rfl (fun ls hl => ?_)
      refine lv_iconst (v := 2) C.1 C.2.1 dL_drift_13 (by decide) ?_
      cases h
      exact h_reti C hw hS dL_drift_14
    have h := it_f e1 h
    cases h
  · subst ho
    dsimp only at h
    refine lv_goto (tgt := 15) C.1 C.2.1 dL_drift_6 (by decide) ?_
    refine lv_iconst (v := 0) C.1 C.2.1 dL_drift_15 (by decide) ?_
    cases h
    exact h_reti C hw hS dL_drift_16
abbrev rm_L_value : Room := { frames := 7, cells := 1, slots := 6, locals := 169 }
def f_L_value (N : Nat) (x1 : Int32) (M : Mm) : Option (Int32 × Mm) :=
  (f_X2_value N x1 M).bind fun (o4, M4) => match o4 with | .inl k => (if k = 1 then some (1, M4) else (if k = 0 then some (2, M4) else none)) | .inr r4 => (wL M4 5 0 r4).bind fun M7 => some (0, M7)
set_option maxRecDepth 100000 in
set_option maxHeartbeats 4000000 in
theorem c_L_value (θ : Th) (l : Launch) (hl0 : l.stackTraces = false) (N : Nat) {x1 : Int32} {M : Mm} {r : Int32} {M1 : Mm} (h : f_L_value N x1 M = some (r, M1)) : Met l yL_value (gwt yL_value cL_value 4 (some .int) [(0, 8, 11, 34), (0, 8, 14, 13)]) rm_L_value (va_Pc [.ref (tad θ 0), .int x1, .ref (tad θ (22 + 5))] (wX θ M)) (qI θ r M1) 1 6 (tA θ) := by
  unfold f_L_value at h
  refine h_met (by decide +kernel) (Nat.le_of_ble_eq_true rfl) ?_
  intro p e s m args below meth c C Z htab ls hl hw
  have hS : va_S (tA θ) s.heap s.heap [] := va_S.rf
  have hl : lv_has ls 4 [(0, .ref (tad θ 0)), (1, .int x1), (2, .ref (tad θ (22 + 5)))] := hl
  refine lv_aload_n C.1 C.2.1 dL_value_0 rfl (lv_at hl 2 rfl) ?_
  refine lv_iconst (v := 0) C.1 C.2.1 dL_value_1 (by decide) ?_
  refine lv_aload_n C.1 C.2.1 dL_value_2 rfl (lv_at hl 0 rfl) ?_
  refine lv_iload_n C.1 C.2.1 dL_value_3 rfl (lv_at hl 1 rfl) ?_
  obtain ⟨⟨o4, M4⟩, h4, h⟩ := bind_s h
  dsimp only at h
  refine kx_l (kx_run (As := [.int x1]) C cf_X2_value cv_X2_value w_408 rc0 (c_X2_value θ l hl0 N h4) ⟨rfl, rfl, Nat.le_of_ble_eq_true rfl, Nat.le_of_ble_eq_true rfl⟩ rfl hl.1 rfl (Nat.le_of_ble_eq_true rfl) dL_value_4 ⟨Nat.le_of_ble_eq_true rfl, Nat.le_of_ble_eq_true rfl⟩ hw Z hS) hS (fun k ce q H locs ho hw hS hq hv hc => ?_) (fun r4 H locs ho hw hS => ?_)
  · subst ho
    dsimp only at h
    by_cases e0 : k = 1
    · have h := it_t e0 h
      subst e0
      refine vx_catch (own := RL) (name := exn 1) (E := exn 1) C.2.2.2.1 [] ⟨0, 8, 11, 34⟩ [⟨0, 8, 14, 13⟩] htab (fun z hz => nomatch hz) rfl (by decide) (C.2.2.2.2.1 _ w_407) (bw_any (by decide +kernel) (Z.2.2.1 (.castable (exn 1) (exn 1)) (by decide +kernel))) hq hv hc ?_
      refine lv_astore_n (lv' := [(3, .ref q), (0, .ref (tad θ 0)), (1, .int x1), (2, .ref (tad θ (22 + 5)))]) C.1 C.2.1 dL_value_11 rfl hl (by decide) rfl (fun ls hl => ?_)
      refine lv_iconst (v := 1) C.1 C.2.1 dL_value_12 (by decide) ?_
      cases h
      exact h_reti C hw hS dL_value_13
    have h := it_f e0 h
    by_cases e1 : k = 0
    · have h := it_t e1 h
      subst e1
      refine vx_catch (own := RL) (name := exn 0) (E := exn 0) C.2.2.2.1 [⟨0, 8, 11, 34⟩] ⟨0, 8, 14, 13⟩ [] htab (fun z hz => by
          simp only [List.mem_cons, List.not_mem_nil, or_false] at hz
          subst hz
          exact Or.inr ⟨by decide, exn 1, C.2.2.2.2.1 _ w_407, Z.2.2.2 (0, 1) (by decide)⟩) rfl (by decide) (C.2.2.2.2.1 _ w_252) (bw_any (by decide +kernel) (Z.2.2.1 (.castable (exn 0) (exn 0)) (by decide +kernel))) hq hv hc ?_
      refine lv_astore_n (lv' := [(3, .ref q), (0, .ref (tad θ 0)), (1, .int x1), (2, .ref (tad θ (22 + 5)))]) C.1 C.2.1 dL_value_14 rfl hl (by decide) rfl (fun ls hl => ?_)
      refine lv_iconst (v := 2) C.1 C.2.1 dL_value_15 (by decide) ?_
      cases h
      exact h_reti C hw hS dL_value_16
    have h := it_f e1 h
    cases h
  · subst ho
    dsimp only at h
    obtain ⟨M7, h7, h⟩ := bind_s h
    refine k_last C hw hS 5 h7 dL_value_7 (fun H locs hw hS => ?_)
    refine lv_goto (tgt := 17) C.1 C.2.1 dL_value_8 (by decide) ?_
    refine lv_iconst (v := 0) C.1 C.2.1 dL_value_17 (by decide) ?_
    cases h
    exact h_reti C hw hS dL_value_18
abbrev rm_L_point : Room := { frames := 7, cells := 1, slots := 6, locals := 170 }
def f_L_point (N : Nat) (x1 : Int32) (x2 : Int32) (M : Mm) : Option (Int32 × Mm) :=
  (f_X2_point N x1 x2 M).bind fun (o5, M5) => match o5 with | .inl k => (if k = 1 then some (1, M5) else (if k = 2 then some (2, M5) else (if k = 0 then some (3, M5) else none))) | .inr r5 => (wL M5 5 0 r5).bind fun M8 => some (0, M8)
set_option maxRecDepth 100000 in
set_option maxHeartbeats 4000000 in
theorem c_L_point (θ : Th) (l : Launch) (hl0 : l.stackTraces = false) (N : Nat) {x1 : Int32} {x2 : Int32} {M : Mm} {r : Int32} {M1 : Mm} (h : f_L_point N x1 x2 M = some (r, M1)) : Met l yL_point (gwt yL_point cL_point 5 (some .int) [(0, 9, 12, 34), (0, 9, 16, 19), (0, 9, 20, 13)]) rm_L_point (va_Pc [.ref (tad θ 0), .int x1, .int x2, .ref (tad θ (22 + 5))] (wX θ M)) (qI θ r M1) 1 6 (tA θ) := by
  unfold f_L_point at h
  refine h_met (by decide +kernel) (Nat.le_of_ble_eq_true rfl) ?_
  intro p e s m args below meth c C Z htab ls hl hw
  have hS : va_S (tA θ) s.heap s.heap [] := va_S.rf
  have hl : lv_has ls 5 [(0, .ref (tad θ 0)), (1, .int x1), (2, .int x2), (3, .ref (tad θ (22 + 5)))] := hl
  refine lv_aload_n C.1 C.2.1 dL_point_0 rfl (lv_at hl 3 rfl) ?_
  refine lv_iconst (v := 0) C.1 C.2.1 dL_point_1 (by decide) ?_
  refine lv_aload_n C.1 C.2.1 dL_point_2 rfl (lv_at hl 0 rfl) ?_
  refine lv_iload_n C.1 C.2.1 dL_point_3 rfl (lv_at hl 1 rfl) ?_
  refine lv_iload_n C.1 C.2.1 dL_point_4 rfl (lv_at hl 2 rfl) ?_
  obtain ⟨⟨o5, M5⟩, h5, h⟩ := bind_s h
  dsimp only at h
  refine kx_l (kx_run (As := [.int x1, .int x2]) C cf_X2_point cv_X2_point w_455 rc0 (c_X2_point θ l hl0 N h5) ⟨rfl, rfl, Nat.le_of_ble_eq_true rfl, Nat.le_of_ble_eq_true rfl⟩ rfl hl.1 rfl (Nat.le_of_ble_eq_true rfl) dL_point_5 ⟨Nat.le_of_ble_eq_true rfl, Nat.le_of_ble_eq_true rfl⟩ hw Z hS) hS (fun k ce q H locs ho hw hS hq hv hc => ?_) (fun r5 H locs ho hw hS => ?_)
  · subst ho
    dsimp only at h
    by_cases e0 : k = 1
    · have h := it_t e0 h
      subst e0
      refine vx_catch (own := RL) (name := exn 1) (E := exn 1) C.2.2.2.1 [] ⟨0, 9, 12, 34⟩ [⟨0, 9, 16, 19⟩, ⟨0, 9, 20, 13⟩] htab (fun z hz => nomatch hz) rfl (by decide) (C.2.2.2.2.1 _ w_407) (bw_any (by decide +kernel) (Z.2.2.1 (.castable (exn 1) (exn 1)) (by decide +kernel))) hq hv hc ?_
      refine lv_astore (lv' := [(4, .ref q), (0, .ref (tad θ 0)), (1, .int x1), (2, .int x2), (3, .ref (tad θ (22 + 5)))]) C.1 C.2.1 dL_point_12 hl (by decide) rfl (fun ls hl => ?_)
      refine lv_iconst (v := 1) C.1 C.2.1 dL_point_14 (by decide) ?_
      cases h
      exact h_reti C hw hS dL_point_15
    have h := it_f e0 h
    by_cases e1 : k = 2
    · have h := it_t e1 h
      subst e1
      refine vx_catch (own := RL) (name := exn 2) (E := exn 2) C.2.2.2.1 [⟨0, 9, 12, 34⟩] ⟨0, 9, 16, 19⟩ [⟨0, 9, 20, 13⟩] htab (fun z hz => by
          simp only [List.mem_cons, List.not_mem_nil, or_false] at hz
          subst hz
          exact Or.inr ⟨by decide, exn 1, C.2.2.2.2.1 _ w_407, Z.2.2.2 (2, 1) (by decide)⟩) rfl (by decide) (C.2.2.2.2.1 _ w_332) (bw_any (by decide +kernel) (Z.2.2.1 (.castable (exn 2) (exn 2)) (by decide +kernel))) hq hv hc ?_
      refine lv_astore (lv' := [(4, .ref q), (0, .ref (tad θ 0)), (1, .int x1), (2, .int x2), (3, .ref (tad θ (22 + 5)))]) C.1 C.2.1 dL_point_16 hl (by decide) rfl (fun ls hl => ?_)
      refine lv_iconst (v := 2) C.1 C.2.1 dL_point_18 (by decide) ?_
      cases h
      exact h_reti C hw hS dL_point_19
    have h := it_f e1 h
    by_cases e2 : k = 0
    · have h := it_t e2 h
      subst e2
      refine vx_catch (own := RL) (name := exn 0) (E := exn 0) C.2.2.2.1 [⟨0, 9, 12, 34⟩, ⟨0, 9, 16, 19⟩] ⟨0, 9, 20, 13⟩ [] htab (fun z hz => by
          simp only [List.mem_cons, List.not_mem_nil, or_false] at hz
          rcases hz with rfl | rfl
          · exact Or.inr ⟨by decide, exn 1, C.2.2.2.2.1 _ w_407, Z.2.2.2 (0, 1) (by decide)⟩
          · exact Or.inr ⟨by decide, exn 2, C.2.2.2.2.1 _ w_332, Z.2.2.2 (0, 2) (by decide)⟩) rfl (by decide) (C.2.2.2.2.1 _ w_252) (bw_any (by decide +kernel) (Z.2.2.1 (.castable (exn 0) (exn 0)) (by decide +kernel))) hq hv hc ?_
      refine lv_astore (lv' := [(4, .ref q), (0, .ref (tad θ 0)), (1, .int x1), (2, .int x2), (3, .ref (tad θ (22 + 5)))]) C.1 C.2.1 dL_point_20 hl (by decide) rfl (fun ls hl => ?_)
      refine lv_iconst (v := 3) C.1 C.2.1 dL_point_22 (by decide) ?_
      cases h
      exact h_reti C hw hS dL_point_23
    have h := it_f e2 h
    cases h
  · subst ho
    dsimp only at h
    obtain ⟨M8, h8, h⟩ := bind_s h
    refine k_last C hw hS 5 h8 dL_point_8 (fun H locs hw hS => ?_)
    refine lv_goto (tgt := 24) C.1 C.2.1 dL_point_9 (by decide) ?_
    refine lv_iconst (v := 0) C.1 C.2.1 dL_point_24 (by decide) ?_
    cases h
    exact h_reti C hw hS dL_point_25
abbrev rm_L_range : Room := { frames := 7, cells := 1, slots := 6, locals := 171 }
def f_L_range (N : Nat) (x1 : Int32) (x2 : Int32) (x3 : Int32) (M : Mm) : Option (Int32 × Mm) :=
  (f_X2_range N x1 x2 x3 M).bind fun (o7, M7) => match o7 with | .inl k => (if k = 1 then some (1, M7) else (if k = 2 then some (2, M7) else (if k = 0 then some (3, M7) else (if k = 3 then some (4, M7) else none)))) | .inr r7 => (wL M7 5 0 r7).bind fun M10 => some (0, M10)
set_option maxRecDepth 100000 in
set_option maxHeartbeats 4000000 in
theorem c_L_range (θ : Th) (l : Launch) (hl0 : l.stackTraces = false) (N : Nat) {x1 : Int32} {x2 : Int32} {x3 : Int32} {M : Mm} {r : Int32} {M1 : Mm} (h : f_L_range N x1 x2 x3 M = some (r, M1)) : Met l yL_range (gwt yL_range cL_range 6 (some .int) [(0, 11, 14, 34), (0, 11, 18, 19), (0, 11, 22, 13), (0, 11, 26, 44)]) rm_L_range (va_Pc [.ref (tad θ 0), .int x1, .int x2, .int x3, .ref (tad θ (22 + 5))] (wX θ M)) (qI θ r M1) 1 6 (tA θ) := by
  unfold f_L_range at h
  refine h_met (by decide +kernel) (Nat.le_of_ble_eq_true rfl) ?_
  intro p e s m args below meth c C Z htab ls hl hw
  have hS : va_S (tA θ) s.heap s.heap [] := va_S.rf
  have hl : lv_has ls 6 [(0, .ref (tad θ 0)), (1, .int x1), (2, .int x2), (3, .int x3), (4, .ref (tad θ (22 + 5)))] := hl
  refine lv_aload C.1 C.2.1 dL_range_0 (lv_at hl 4 rfl) ?_
  refine lv_iconst (v := 0) C.1 C.2.1 dL_range_2 (by decide) ?_
  refine lv_aload_n C.1 C.2.1 dL_range_3 rfl (lv_at hl 0 rfl) ?_
  refine lv_iload_n C.1 C.2.1 dL_range_4 rfl (lv_at hl 1 rfl) ?_
  refine lv_iload_n C.1 C.2.1 dL_range_5 rfl (lv_at hl 2 rfl) ?_
  refine lv_iload_n C.1 C.2.1 dL_range_6 rfl (lv_at hl 3 rfl) ?_
  obtain ⟨⟨o7, M7⟩, h7, h⟩ := bind_s h
  dsimp only at h
  refine kx_l (kx_run (As := [.int x1, .int x2, .int x3]) C cf_X2_range cv_X2_range w_463 rc0 (c_X2_range θ l hl0 N h7) ⟨rfl, rfl, Nat.le_of_ble_eq_true rfl, Nat.le_of_ble_eq_true rfl⟩ rfl hl.1 rfl (Nat.le_of_ble_eq_true rfl) dL_range_7 ⟨Nat.le_of_ble_eq_true rfl, Nat.le_of_ble_eq_true rfl⟩ hw Z hS) hS (fun k ce q H locs ho hw hS hq hv hc => ?_) (fun r7 H locs ho hw hS => ?_)
  · subst ho
    dsimp only at h
    by_cases e0 : k = 1
    · have h := it_t e0 h
      subst e0
      refine vx_catch (own := RL) (name := exn 1) (E := exn 1) C.2.2.2.1 [] ⟨0, 11, 14, 34⟩ [⟨0, 11, 18, 19⟩, ⟨0, 11, 22, 13⟩, ⟨0, 11, 26, 44⟩] htab (fun z hz => nomatch hz) rfl (by decide) (C.2.2.2.2.1 _ w_407) (bw_any (by decide +kernel) (Z.2.2.1 (.castable (exn 1) (exn 1)) (by decide +kernel))) hq hv hc ?_
      refine lv_astore (lv' := [(5, .ref q), (0, .ref (tad θ 0)), (1, .int x1), (2, .int x2), (3, .int x3), (4, .ref (tad θ (22 + 5)))]) C.1 C.2.1 dL_range_14 hl (by decide) rfl (fun ls hl => ?_)
      refine lv_iconst (v := 1) C.1 C.2.1 dL_range_16 (by decide) ?_
      cases h
      exact h_reti C hw hS dL_range_17
    have h := it_f e0 h
    by_cases e1 : k = 2
    · have h := it_t e1 h
      subst e1
      refine vx_catch (own := RL) (name := exn 2) (E := exn 2) C.2.2.2.1 [⟨0, 11, 14, 34⟩] ⟨0, 11, 18, 19⟩ [⟨0, 11, 22, 13⟩, ⟨0, 11, 26, 44⟩] htab (fun z hz => by
          simp only [List.mem_cons, List.not_mem_nil, or_false] at hz
          subst hz
          exact Or.inr ⟨by decide, exn 1, C.2.2.2.2.1 _ w_407, Z.2.2.2 (2, 1) (by decide)⟩) rfl (by decide) (C.2.2.2.2.1 _ w_332) (bw_any (by decide +kernel) (Z.2.2.1 (.castable (exn 2) (exn 2)) (by decide +kernel))) hq hv hc ?_
      refine lv_astore (lv' := [(5, .ref q), (0, .ref (tad θ 0)), (1, .int x1), (2, .int x2), (3, .int x3), (4, .ref (tad θ (22 + 5)))]) C.1 C.2.1 dL_range_18 hl (by decide) rfl (fun ls hl => ?_)
      refine lv_iconst (v := 2) C.1 C.2.1 dL_range_20 (by decide) ?_
      cases h
      exact h_reti C hw hS dL_range_21
    have h := it_f e1 h
    by_cases e2 : k = 0
    · have h := it_t e2 h
      subst e2
      refine vx_catch (own := RL) (name := exn 0) (E := exn 0) C.2.2.2.1 [⟨0, 11, 14, 34⟩, ⟨0, 11, 18, 19⟩] ⟨0, 11, 22, 13⟩ [⟨0, 11, 26, 44⟩] htab (fun z hz => by
          simp only [List.mem_cons, List.not_mem_nil, or_false] at hz
          rcases hz with rfl | rfl
          · exact Or.inr ⟨by decide, exn 1, C.2.2.2.2.1 _ w_407, Z.2.2.2 (0, 1) (by decide)⟩
          · exact Or.inr ⟨by decide, exn 2, C.2.2.2.2.1 _ w_332, Z.2.2.2 (0, 2) (by decide)⟩) rfl (by decide) (C.2.2.2.2.1 _ w_252) (bw_any (by decide +kernel) (Z.2.2.1 (.castable (exn 0) (exn 0)) (by decide +kernel))) hq hv hc ?_
      refine lv_astore (lv' := [(5, .ref q), (0, .ref (tad θ 0)), (1, .int x1), (2, .int x2), (3, .int x3), (4, .ref (tad θ (22 + 5)))]) C.1 C.2.1 dL_range_22 hl (by decide) rfl (fun ls hl => ?_)
      refine lv_iconst (v := 3) C.1 C.2.1 dL_range_24 (by decide) ?_
      cases h
      exact h_reti C hw hS dL_range_25
    have h := it_f e2 h
    by_cases e3 : k = 3
    · have h := it_t e3 h
      subst e3
      refine vx_catch (own := RL) (name := exn 3) (E := exn 3) C.2.2.2.1 [⟨0, 11, 14, 34⟩, ⟨0, 11, 18, 19⟩, ⟨0, 11, 22, 13⟩] ⟨0, 11, 26, 44⟩ [] htab (fun z hz => by
          simp only [List.mem_cons, List.not_mem_nil, or_false] at hz
          rcases hz with rfl | rfl | rfl
          · exact Or.inr ⟨by decide, exn 1, C.2.2.2.2.1 _ w_407, Z.2.2.2 (3, 1) (by decide)⟩
          · exact Or.inr ⟨by decide, exn 2, C.2.2.2.2.1 _ w_332, Z.2.2.2 (3, 2) (by decide)⟩
          · exact Or.inr ⟨by decide, exn 0, C.2.2.2.2.1 _ w_252, Z.2.2.2 (3, 0) (by decide)⟩) rfl (by decide) (C.2.2.2.2.1 _ w_462) (bw_any (by decide +kernel) (Z.2.2.1 (.castable (exn 3) (exn 3)) (by decide +kernel))) hq hv hc ?_
      refine lv_astore (lv' := [(5, .ref q), (0, .ref (tad θ 0)), (1, .int x1), (2, .int x2), (3, .int x3), (4, .ref (tad θ (22 + 5)))]) C.1 C.2.1 dL_range_26 hl (by decide) rfl (fun ls hl => ?_)
      refine lv_iconst (v := 4) C.1 C.2.1 dL_range_28 (by decide) ?_
      cases h
      exact h_reti C hw hS dL_range_29
    have h := it_f e3 h
    cases h
  · subst ho
    dsimp only at h
    obtain ⟨M10, h10, h⟩ := bind_s h
    refine k_last C hw hS 5 h10 dL_range_10 (fun H locs hw hS => ?_)
    refine lv_goto (tgt := 30) C.1 C.2.1 dL_range_11 (by decide) ?_
    refine lv_iconst (v := 0) C.1 C.2.1 dL_range_30 (by decide) ?_
    cases h
    exact h_reti C hw hS dL_range_31
abbrev rm_L_tight : Room := { frames := 7, cells := 1, slots := 6, locals := 168 }
def f_L_tight (N : Nat) (x1 : Int32) (M : Mm) : Option (Int32 × Mm) :=
  (f_X2_tight N x1 M).bind fun (o4, M4) => match o4 with | .inl k => (if k = 1 then some (1, M4) else (if k = 2 then some (2, M4) else none)) | .inr r4 => (if r4 = 0 then (wL M4 5 0 0).bind fun M15 => some (0, M15) else (wL M4 5 0 1).bind fun M15 => some (0, M15))
set_option maxRecDepth 100000 in
set_option maxHeartbeats 4000000 in
theorem c_L_tight (θ : Th) (l : Launch) (hl0 : l.stackTraces = false) (N : Nat) {x1 : Int32} {M : Mm} {r : Int32} {M1 : Mm} (h : f_L_tight N x1 M = some (r, M1)) : Met l yL_tight (gwt yL_tight cL_tight 4 (some .int) [(0, 16, 19, 34), (0, 16, 22, 19)]) rm_L_tight (va_Pc [.ref (tad θ 0), .int x1, .ref (tad θ (22 + 5))] (wX θ M)) (qI θ r M1) 1 6 (tA θ) := by
  unfold f_L_tight at h
  refine h_met (by decide +kernel) (Nat.le_of_ble_eq_true rfl) ?_
  intro p e s m args below meth c C Z htab ls hl hw
  have hS : va_S (tA θ) s.heap s.heap [] := va_S.rf
  have hl : lv_has ls 4 [(0, .ref (tad θ 0)), (1, .int x1), (2, .ref (tad θ (22 + 5)))] := hl
  refine lv_aload_n C.1 C.2.1 dL_tight_0 rfl (lv_at hl 2 rfl) ?_
  refine lv_iconst (v := 0) C.1 C.2.1 dL_tight_1 (by decide) ?_
  refine lv_aload_n C.1 C.2.1 dL_tight_2 rfl (lv_at hl 0 rfl) ?_
  refine lv_iload_n C.1 C.2.1 dL_tight_3 rfl (lv_at hl 1 rfl) ?_
  obtain ⟨⟨o4, M4⟩, h4, h⟩ := bind_s h
  dsimp only at h
  refine kx_i (kx_run (As := [.int x1]) C cf_X2_tight cv_X2_tight w_496 rc0 (c_X2_tight θ l hl0 N h4) ⟨rfl, rfl, Nat.le_of_ble_eq_true rfl, Nat.le_of_ble_eq_true rfl⟩ rfl hl.1 rfl (Nat.le_of_ble_eq_true rfl) dL_tight_4 ⟨Nat.le_of_ble_eq_true rfl, Nat.le_of_ble_eq_true rfl⟩ hw Z hS) hS (fun k ce q H locs ho hw hS hq hv hc => ?_) (fun r4 H locs ho hw hS => ?_)
  · subst ho
    dsimp only at h
    by_cases e0 : k = 1
    · have h := it_t e0 h
      subst e0
      refine vx_catch (own := RL) (name := exn 1) (E := exn 1) C.2.2.2.1 [] ⟨0, 16, 19, 34⟩ [⟨0, 16, 22, 19⟩] htab (fun z hz => nomatch hz) rfl (by decide) (C.2.2.2.2.1 _ w_407) (bw_any (by decide +kernel) (Z.2.2.1 (.castable (exn 1) (exn 1)) (by decide +kernel))) hq hv hc ?_
      refine lv_astore_n (lv' := [(3, .ref q), (0, .ref (tad θ 0)), (1, .int x1), (2, .ref (tad θ (22 + 5)))]) C.1 C.2.1 dL_tight_19 rfl hl (by decide) rfl (fun ls hl => ?_)
      refine lv_iconst (v := 1) C.1 C.2.1 dL_tight_20 (by decide) ?_
      cases h
      exact h_reti C hw hS dL_tight_21
    have h := it_f e0 h
    by_cases e1 : k = 2
    · have h := it_t e1 h
      subst e1
      refine vx_catch (own := RL) (name := exn 2) (E := exn 2) C.2.2.2.1 [⟨0, 16, 19, 34⟩] ⟨0, 16, 22, 19⟩ [] htab (fun z hz => by
          simp only [List.mem_cons, List.not_mem_nil, or_false] at hz
          subst hz
          exact Or.inr ⟨by decide, exn 1, C.2.2.2.2.1 _ w_407, Z.2.2.2 (2, 1) (by decide)⟩) rfl (by decide) (C.2.2.2.2.1 _ w_332) (bw_any (by decide +kernel) (Z.2.2.1 (.castable (exn 2) (exn 2)) (by decide +kernel))) hq hv hc ?_
      refine lv_astore_n (lv' := [(3, .ref q), (0, .ref (tad θ 0)), (1, .int x1), (2, .ref (tad θ (22 + 5)))]) C.1 C.2.1 dL_tight_22 rfl hl (by decide) rfl (fun ls hl => ?_)
      refine lv_iconst (v := 2) C.1 C.2.1 dL_tight_23 (by decide) ?_
      cases h
      exact h_reti C hw hS dL_tight_24
    have h := it_f e1 h
    cases h
  · subst ho
    dsimp only at h
    refine lv_if_eq (tgt := 14) C.1 C.2.1 dL_tight_7 (by decide) (fun c7 => ?_) (fun c7 => ?_)
    · have h := it_t c7 h
      refine lv_lconst (v := 0) C.1 C.2.1 dL_tight_14 (by decide) ?_
      obtain ⟨M15, h15, h⟩ := bind_s h
      refine k_last C hw hS 5 h15 dL_tight_15 (fun H locs hw hS => ?_)
      refine lv_goto (tgt := 25) C.1 C.2.1 dL_tight_16 (by decide) ?_
      refine lv_iconst (v := 0) C.1 C.2.1 dL_tight_25 (by decide) ?_
      cases h
      exact h_reti C hw hS dL_tight_26
    · have h := it_f c7 h
      refine lv_lconst (v := 1) C.1 C.2.1 dL_tight_10 (by decide) ?_
      refine lv_goto (tgt := 15) C.1 C.2.1 dL_tight_11 (by decide) ?_
      obtain ⟨M15, h15, h⟩ := bind_s h
      refine k_last C hw hS 5 h15 dL_tight_15 (fun H locs hw hS => ?_)
      refine lv_goto (tgt := 25) C.1 C.2.1 dL_tight_16 (by decide) ?_
      refine lv_iconst (v := 0) C.1 C.2.1 dL_tight_25 (by decide) ?_
      cases h
      exact h_reti C hw hS dL_tight_26
abbrev rm_L_conflict : Room := { frames := 7, cells := 1, slots := 6, locals := 170 }
def f_L_conflict (N : Nat) (M : Mm) : Option (Int32 × Mm) :=
  (f_X2_conflict N M).bind fun (o3, M3) => match o3 with | .inl k => (if k = 1 then some (1, M3) else none) | .inr r3 => (wL M3 5 0 (Int32.toInt64 r3)).bind fun M7 => some (0, M7)
set_option maxRecDepth 100000 in
set_option maxHeartbeats 4000000 in
theorem c_L_conflict (θ : Th) (l : Launch) (hl0 : l.stackTraces = false) (N : Nat) {M : Mm} {r : Int32} {M1 : Mm} (h : f_L_conflict N M = some (r, M1)) : Met l yL_conflict (gwt yL_conflict cL_conflict 3 (some .int) [(0, 8, 11, 34)]) rm_L_conflict (va_Pc [.ref (tad θ 0), .ref (tad θ (22 + 5))] (wX θ M)) (qI θ r M1) 1 6 (tA θ) := by
  unfold f_L_conflict at h
  refine h_met (by decide +kernel) (Nat.le_of_ble_eq_true rfl) ?_
  intro p e s m args below meth c C Z htab ls hl hw
  have hS : va_S (tA θ) s.heap s.heap [] := va_S.rf
  have hl : lv_has ls 3 [(0, .ref (tad θ 0)), (1, .ref (tad θ (22 + 5)))] := hl
  refine lv_aload_n C.1 C.2.1 dL_conflict_0 rfl (lv_at hl 1 rfl) ?_
  refine lv_iconst (v := 0) C.1 C.2.1 dL_conflict_1 (by decide) ?_
  refine lv_aload_n C.1 C.2.1 dL_conflict_2 rfl (lv_at hl 0 rfl) ?_
  obtain ⟨⟨o3, M3⟩, h3, h⟩ := bind_s h
  dsimp only at h
  refine kx_i (kx_run (As := []) C cf_X2_conflict cv_X2_conflict w_508 rc0 (c_X2_conflict θ l hl0 N h3) ⟨rfl, rfl, Nat.le_of_ble_eq_true rfl, Nat.le_of_ble_eq_true rfl⟩ rfl hl.1 rfl (Nat.le_of_ble_eq_true rfl) dL_conflict_3 ⟨Nat.le_of_ble_eq_true rfl, Nat.le_of_ble_eq_true rfl⟩ hw Z hS) hS (fun k ce q H locs ho hw hS hq hv hc => ?_) (fun r3 H locs ho hw hS => ?_)
  · subst ho
    dsimp only at h
    by_cases e0 : k = 1
    · have h := it_t e0 h
      subst e0
      refine vx_catch (own := RL) (name := exn 1) (E := exn 1) C.2.2.2.1 [] ⟨0, 8, 11, 34⟩ [] htab (fun z hz => nomatch hz) rfl (by decide) (C.2.2.2.2.1 _ w_407) (bw_any (by decide +kernel) (Z.2.2.1 (.castable (exn 1) (exn 1)) (by decide +kernel))) hq hv hc ?_
      refine lv_astore_n (lv' := [(2, .ref q), (0, .ref (tad θ 0)), (1, .ref (tad θ (22 + 5)))]) C.1 C.2.1 dL_conflict_11 rfl hl (by decide) rfl (fun ls hl => ?_)
      refine lv_iconst (v := 1) C.1 C.2.1 dL_conflict_12 (by decide) ?_
      cases h
      exact h_reti C hw hS dL_conflict_13
    have h := it_f e0 h
    cases h
  · subst ho
    dsimp only at h
    refine lv_i2l (v := (Int32.toInt64 r3)) C.1 C.2.1 dL_conflict_6 rfl ?_
    obtain ⟨M7, h7, h⟩ := bind_s h
    refine k_last C hw hS 5 h7 dL_conflict_7 (fun H locs hw hS => ?_)
    refine lv_goto (tgt := 14) C.1 C.2.1 dL_conflict_8 (by decide) ?_
    refine lv_iconst (v := 0) C.1 C.2.1 dL_conflict_14 (by decide) ?_
    cases h
    exact h_reti C hw hS dL_conflict_15
abbrev rm_L_corner : Room := { frames := 7, cells := 1, slots := 6, locals := 153 }
def f_L_corner (N : Nat) (x1 : Int32) (x2 : Int32) (M : Mm) : Option (Int32 × Mm) :=
  (f_X2_corner N x1 x2 M).bind fun (o5, M5) => match o5 with | .inl k => (if k = 2 then some (1, M5) else (if k = 0 then some (2, M5) else none)) | .inr r5 => (wL M5 5 0 r5).bind fun M8 => some (0, M8)
set_option maxRecDepth 100000 in
set_option maxHeartbeats 4000000 in
theorem c_L_corner (θ : Th) (l : Launch) (hl0 : l.stackTraces = false) (N : Nat) {x1 : Int32} {x2 : Int32} {M : Mm} {r : Int32} {M1 : Mm} (h : f_L_corner N x1 x2 M = some (r, M1)) : Met l yL_corner (gwt yL_corner cL_corner 5 (some .int) [(0, 9, 12, 19), (0, 9, 16, 13)]) rm_L_corner (va_Pc [.ref (tad θ 0), .int x1, .int x2, .ref (tad θ (22 + 5))] (wX θ M)) (qI θ r M1) 1 6 (tA θ) := by
  unfold f_L_corner at h
  refine h_met (by decide +kernel) (Nat.le_of_ble_eq_true rfl) ?_
  intro p e s m args below meth c C Z htab ls hl hw
  have hS : va_S (tA θ) s.heap s.heap [] := va_S.rf
  have hl : lv_has ls 5 [(0, .ref (tad θ 0)), (1, .int x1), (2, .int x2), (3, .ref (tad θ (22 + 5)))] := hl
  refine lv_aload_n C.1 C.2.1 dL_corner_0 rfl (lv_at hl 3 rfl) ?_
  refine lv_iconst (v := 0) C.1 C.2.1 dL_corner_1 (by decide) ?_
  refine lv_aload_n C.1 C.2.1 dL_corner_2 rfl (lv_at hl 0 rfl) ?_
  refine lv_iload_n C.1 C.2.1 dL_corner_3 rfl (lv_at hl 1 rfl) ?_
  refine lv_iload_n C.1 C.2.1 dL_corner_4 rfl (lv_at hl 2 rfl) ?_
  obtain ⟨⟨o5, M5⟩, h5, h⟩ := bind_s h
  dsimp only at h
  refine kx_l (kx_run (As := [.int x1, .int x2]) C cf_X2_corner cv_X2_corner w_515 rc0 (c_X2_corner θ l hl0 N h5) ⟨rfl, rfl, Nat.le_of_ble_eq_true rfl, Nat.le_of_ble_eq_true rfl⟩ rfl hl.1 rfl (Nat.le_of_ble_eq_true rfl) dL_corner_5 ⟨Nat.le_of_ble_eq_true rfl, Nat.le_of_ble_eq_true rfl⟩ hw Z hS) hS (fun k ce q H locs ho hw hS hq hv hc => ?_) (fun r5 H locs ho hw hS => ?_)
  · subst ho
    dsimp only at h
    by_cases e0 : k = 2
    · have h := it_t e0 h
      subst e0
      refine vx_catch (own := RL) (name := exn 2) (E := exn 2) C.2.2.2.1 [] ⟨0, 9, 12, 19⟩ [⟨0, 9, 16, 13⟩] htab (fun z hz => nomatch hz) rfl (by decide) (C.2.2.2.2.1 _ w_332) (bw_any (by decide +kernel) (Z.2.2.1 (.castable (exn 2) (exn 2)) (by decide +kernel))) hq hv hc ?_
      refine lv_astore (lv' := [(4, .ref q), (0, .ref (tad θ 0)), (1, .int x1), (2, .int x2), (3, .ref (tad θ (22 + 5)))]) C.1 C.2.1 dL_corner_12 hl (by decide) rfl (fun ls hl => ?_)
      refine lv_iconst (v := 1) C.1 C.2.1 dL_corner_14 (by decide) ?_
      cases h
      exact h_reti C hw hS dL_corner_15
    have h := it_f e0 h
    by_cases e1 : k = 0
    · have h := it_t e1 h
      subst e1
      refine vx_catch (own := RL) (name := exn 0) (E := exn 0) C.2.2.2.1 [⟨0, 9, 12, 19⟩] ⟨0, 9, 16, 13⟩ [] htab (fun z hz => by
          simp only [List.mem_cons, List.not_mem_nil, or_false] at hz
          subst hz
          exact Or.inr ⟨by decide, exn 2, C.2.2.2.2.1 _ w_332, Z.2.2.2 (0, 2) (by decide)⟩) rfl (by decide) (C.2.2.2.2.1 _ w_252) (bw_any (by decide +kernel) (Z.2.2.1 (.castable (exn 0) (exn 0)) (by decide +kernel))) hq hv hc ?_
      refine lv_astore (lv' := [(4, .ref q), (0, .ref (tad θ 0)), (1, .int x1), (2, .int x2), (3, .ref (tad θ (22 + 5)))]) C.1 C.2.1 dL_corner_16 hl (by decide) rfl (fun ls hl => ?_)
      refine lv_iconst (v := 2) C.1 C.2.1 dL_corner_18 (by decide) ?_
      cases h
      exact h_reti C hw hS dL_corner_19
    have h := it_f e1 h
    cases h
  · subst ho
    dsimp only at h
    obtain ⟨M8, h8, h⟩ := bind_s h
    refine k_last C hw hS 5 h8 dL_corner_8 (fun H locs hw hS => ?_)
    refine lv_goto (tgt := 20) C.1 C.2.1 dL_corner_9 (by decide) ?_
    refine lv_iconst (v := 0) C.1 C.2.1 dL_corner_20 (by decide) ?_
    cases h
    exact h_reti C hw hS dL_corner_21
