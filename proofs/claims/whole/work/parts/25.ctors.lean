set_option maxRecDepth 100000 in
theorem w_insX0 : Cond.instantiable RX0 6 ∈ gw := gw_in 102 (by decide +kernel) rfl
set_option maxRecDepth 100000 in
theorem w_insX1 : Cond.instantiable RX1 7 ∈ gw := gw_in 67 (by decide +kernel) rfl
set_option maxRecDepth 100000 in
theorem w_insX2 : Cond.instantiable RX2 3 ∈ gw := gw_in 59 (by decide +kernel) rfl
set_option maxRecDepth 100000 in
theorem w_insX3 : Cond.instantiable RX3 20 ∈ gw := gw_in 520 (by decide +kernel) rfl
set_option maxRecDepth 100000 in
theorem cf_X1_init : CF yX1_init cX1_init 1 none 0 := ⟨gw_in 70 rfl rfl, gw_in 45 (by decide +kernel) rfl, by decide +kernel, by decide +kernel, by decide +kernel⟩
set_option maxRecDepth 100000 in
theorem cf_X0_init : CF yX0_init cX0_init 1 none 0 := ⟨gw_in 105 rfl rfl, gw_in 46 (by decide +kernel) rfl, by decide +kernel, by decide +kernel, by decide +kernel⟩
set_option maxRecDepth 100000 in
theorem cf_X2_init : CF yX2_init cX2_init 1 none 0 := ⟨gw_in 62 rfl rfl, gw_in 44 (by decide +kernel) rfl, by decide +kernel, by decide +kernel, by decide +kernel⟩
set_option maxRecDepth 100000 in
theorem cf_X3_init : CF yX3_init cX3_init 1 none 0 := ⟨gw_in 523 rfl rfl, gw_in 47 (by decide +kernel) rfl, by decide +kernel, by decide +kernel, by decide +kernel⟩
abbrev rm_X1_init : Room := { frames := 1, cells := 8, slots := 34, locals := 12 }
set_option maxRecDepth 100000 in
set_option maxHeartbeats 4000000 in
theorem c_X1_init (θ : Th) (l : Launch) (ws : va_W) (h0 : Nat) : Met l yX1_init (gws yX1_init cX1_init 1 none) rm_X1_init (va_Pc [.ref h0] (fun U => va_K θ.2.2.1 vwCl (tys θ) U ∧ θ.1 ≤ U.heap.size ∧ va_AOA .long U ∧ cd θ ws h0 1 [.int 0, .int 0, .null, .null, .null, .null, .null] [] U.heap)) (va_Qv (fun _ : Unit => True) (fun _ t => ∃ (q18 : Nat) (r18 : Nat → Nat) (q27 : Nat) (q34 : Nat) (q41 : Nat) (q48 : Nat), va_K θ.2.2.1 vwCl (tys θ) t ∧ cd θ ws h0 1 [.int 1, .int 0, .ref q18, .ref q27, .ref q34, .ref q41, .ref q48] ((((([] ++ (nwO θ q18 r18 3 :: nwR θ r18 3 6)) ++ [nwI θ q27 3]) ++ [nwI θ q34 3]) ++ [nwI θ q41 3]) ++ [nwI θ q48 4]) t.heap) (tA θ)) 8 34 (tA θ) := by
  refine n_met (by decide +kernel) rfl ?_
  intro p e s m args below meth c C hi hz hov ls hl hcd
  have hS : va_S (tA θ) s.heap s.heap [] := va_S.rf
  refine lv_aload_n C.1 C.2.1 dX1_init_0 rfl (lv_at hl 0 rfl) ?_
  refine W.objInit C.1 C.2.1 C.2.2.2.1 (C.2.2.2.2.1 _ w_71) (C.2.2.2.2.1 _ w_64) (C.2.2.2.2.1 _ w_oi) rfl (hl.1.trans C.2.2.1.symm) rfl dX1_init_1 (Nat.le_of_ble_eq_true rfl) (Nat.le_of_ble_eq_true rfl) ?_
  refine W.eq (g2 := F0 m 4 ls []) rfl ?_
  refine lv_aload_n C.1 C.2.1 dX1_init_4 rfl (lv_at hl 0 rfl) ?_
  refine lv_iconst (v := 1) C.1 C.2.1 dX1_init_5 (by decide) ?_
  refine n_put (v := .int 1) (ty := .int) C hcd hS (T := TX1) (N := 7) 0 gin1 tyX1 tyX1_ok nmX1 rfl (by decide) (Or.inl rfl) (by decide +kernel) rfl rfl (Nat.le_of_ble_eq_true rfl) w_74 dX1_init_6 (fun H locs hcd hS => ?_)
  have hcd : cd θ ws h0 1 [.int 1, .int 0, .null, .null, .null, .null, .null] [] H := hcd
  refine lv_aload_n C.1 C.2.1 dX1_init_9 rfl (lv_at hl 0 rfl) ?_
  refine lv_iconst (v := 0) C.1 C.2.1 dX1_init_10 (by decide) ?_
  refine n_put (v := .int 0) (ty := .int) C hcd hS (T := TX1) (N := 7) 1 gin1 tyX1 tyX1_ok nmX1 rfl (by decide) (Or.inl rfl) (by decide +kernel) rfl rfl (Nat.le_of_ble_eq_true rfl) w_76 dX1_init_11 (fun H locs hcd hS => ?_)
  have hcd : cd θ ws h0 1 [.int 1, .int 0, .null, .null, .null, .null, .null] [] H := hcd
  refine lv_aload_n C.1 C.2.1 dX1_init_14 rfl (lv_at hl 0 rfl) ?_
  refine lv_iconst (v := 3) C.1 C.2.1 dX1_init_15 (by decide) ?_
  refine lv_bipush (v := 6) C.1 C.2.1 dX1_init_16 (by decide) ?_
  refine n_mna C hov w_72 w_arrJ hcd hS hz 3 6 (by decide) (by decide) (by decide) (by decide) (Nat.le_of_ble_eq_true rfl) (Nat.le_of_ble_eq_true rfl) (Nat.le_of_ble_eq_true rfl) (Nat.le_of_ble_eq_true rfl) dX1_init_18 (fun q18 r18 H hcd hS => ?_)
  refine W.widen (k := 4) (n := 21) (Nat.le_of_ble_eq_true rfl) (Nat.le_of_ble_eq_true rfl) ?_
  refine n_put (v := .ref q18) (ty := (.array (.array .long))) C hcd hS (T := TX1) (N := 7) 2 gin1 tyX1 tyX1_ok nmX1 rfl (by decide) (Or.inr ⟨rfl, hi, rfl⟩) (by decide +kernel) rfl rfl (Nat.le_of_ble_eq_true rfl) w_79 dX1_init_22 (fun H locs hcd hS => ?_)
  have hcd : cd θ ws h0 1 [.int 1, .int 0, .ref q18, .null, .null, .null, .null] ([] ++ (nwO θ q18 r18 3 :: nwR θ r18 3 6)) H := hcd
  refine lv_aload_n C.1 C.2.1 dX1_init_25 rfl (lv_at hl 0 rfl) ?_
  refine lv_iconst (v := 3) C.1 C.2.1 dX1_init_26 (by decide) ?_
  refine n_newI C w_arrI hcd hS hz 3 (by decide) (by decide) (Nat.le_of_ble_eq_true rfl) (Nat.le_of_ble_eq_true rfl) (Nat.le_of_ble_eq_true rfl) dX1_init_27 (fun q27 H hcd hS => ?_)
  refine W.widen (k := 5) (n := 24) (Nat.le_of_ble_eq_true rfl) (Nat.le_of_ble_eq_true rfl) ?_
  refine n_put (v := .ref q27) (ty := (.array .int)) C hcd hS (T := TX1) (N := 7) 3 gin1 tyX1 tyX1_ok nmX1 rfl (by decide) (Or.inr ⟨rfl, hi, rfl⟩) (by decide +kernel) rfl rfl (Nat.le_of_ble_eq_true rfl) w_80 dX1_init_29 (fun H locs hcd hS => ?_)
  have hcd : cd θ ws h0 1 [.int 1, .int 0, .ref q18, .ref q27, .null, .null, .null] (([] ++ (nwO θ q18 r18 3 :: nwR θ r18 3 6)) ++ [nwI θ q27 3]) H := hcd
  refine lv_aload_n C.1 C.2.1 dX1_init_32 rfl (lv_at hl 0 rfl) ?_
  refine lv_iconst (v := 3) C.1 C.2.1 dX1_init_33 (by decide) ?_
  refine n_newI C w_arrI hcd hS hz 3 (by decide) (by decide) (Nat.le_of_ble_eq_true rfl) (Nat.le_of_ble_eq_true rfl) (Nat.le_of_ble_eq_true rfl) dX1_init_34 (fun q34 H hcd hS => ?_)
  refine W.widen (k := 6) (n := 27) (Nat.le_of_ble_eq_true rfl) (Nat.le_of_ble_eq_true rfl) ?_
  refine n_put (v := .ref q34) (ty := (.array .int)) C hcd hS (T := TX1) (N := 7) 4 gin1 tyX1 tyX1_ok nmX1 rfl (by decide) (Or.inr ⟨rfl, hi, rfl⟩) (by decide +kernel) rfl rfl (Nat.le_of_ble_eq_true rfl) w_81 dX1_init_36 (fun H locs hcd hS => ?_)
  have hcd : cd θ ws h0 1 [.int 1, .int 0, .ref q18, .ref q27, .ref q34, .null, .null] ((([] ++ (nwO θ q18 r18 3 :: nwR θ r18 3 6)) ++ [nwI θ q27 3]) ++ [nwI θ q34 3]) H := hcd
  refine lv_aload_n C.1 C.2.1 dX1_init_39 rfl (lv_at hl 0 rfl) ?_
  refine lv_iconst (v := 3) C.1 C.2.1 dX1_init_40 (by decide) ?_
  refine n_newI C w_arrI hcd hS hz 3 (by decide) (by decide) (Nat.le_of_ble_eq_true rfl) (Nat.le_of_ble_eq_true rfl) (Nat.le_of_ble_eq_true rfl) dX1_init_41 (fun q41 H hcd hS => ?_)
  refine W.widen (k := 7) (n := 30) (Nat.le_of_ble_eq_true rfl) (Nat.le_of_ble_eq_true rfl) ?_
  refine n_put (v := .ref q41) (ty := (.array .int)) C hcd hS (T := TX1) (N := 7) 5 gin1 tyX1 tyX1_ok nmX1 rfl (by decide) (Or.inr ⟨rfl, hi, rfl⟩) (by decide +kernel) rfl rfl (Nat.le_of_ble_eq_true rfl) w_82 dX1_init_43 (fun H locs hcd hS => ?_)
  have hcd : cd θ ws h0 1 [.int 1, .int 0, .ref q18, .ref q27, .ref q34, .ref q41, .null] (((([] ++ (nwO θ q18 r18 3 :: nwR θ r18 3 6)) ++ [nwI θ q27 3]) ++ [nwI θ q34 3]) ++ [nwI θ q41 3]) H := hcd
  refine lv_aload_n C.1 C.2.1 dX1_init_46 rfl (lv_at hl 0 rfl) ?_
  refine lv_iconst (v := 4) C.1 C.2.1 dX1_init_47 (by decide) ?_
  refine n_newI C w_arrI hcd hS hz 4 (by decide) (by decide) (Nat.le_of_ble_eq_true rfl) (Nat.le_of_ble_eq_true rfl) (Nat.le_of_ble_eq_true rfl) dX1_init_48 (fun q48 H hcd hS => ?_)
  refine W.widen (k := 8) (n := 34) (Nat.le_of_ble_eq_true rfl) (Nat.le_of_ble_eq_true rfl) ?_
  refine n_put (v := .ref q48) (ty := (.array .int)) C hcd hS (T := TX1) (N := 7) 6 gin1 tyX1 tyX1_ok nmX1 rfl (by decide) (Or.inr ⟨rfl, hi, rfl⟩) (by decide +kernel) rfl rfl (Nat.le_of_ble_eq_true rfl) w_83 dX1_init_50 (fun H locs hcd hS => ?_)
  have hcd : cd θ ws h0 1 [.int 1, .int 0, .ref q18, .ref q27, .ref q34, .ref q41, .ref q48] ((((([] ++ (nwO θ q18 r18 3 :: nwR θ r18 3 6)) ++ [nwI θ q27 3]) ++ [nwI θ q34 3]) ++ [nwI θ q41 3]) ++ [nwI θ q48 4]) H := hcd
  exact W.vret C.1 C.2.1 C.2.2.2.2.2.2.1 (fun t ht hW => ⟨⟨(), rfl, trivial, q18, r18, q27, q34, q41, q48, va_K.moved hW.alike C.2.2.2.2.2.1, by rw [ht]; exact hcd⟩, hS.F ht⟩) hS.2.2 dX1_init_53 C.2.2.2.2.2.2.2
abbrev rm_X0_init : Room := { frames := 1, cells := 133, slots := 905, locals := 12 }
set_option maxRecDepth 100000 in
set_option maxHeartbeats 4000000 in
theorem c_X0_init (θ : Th) (l : Launch) (ws : va_W) (h0 : Nat) : Met l yX0_init (gws yX0_init cX0_init 1 none) rm_X0_init (va_Pc [.ref h0] (fun U => va_K θ.2.2.1 vwCl (tys θ) U ∧ θ.1 ≤ U.heap.size ∧ va_AOA .long U ∧ cd θ ws h0 0 [.null, .int 0, .int 0, .null, .null, .null] [] U.heap)) (va_Qv (fun _ : Unit => True) (fun _ t => ∃ (q9 : Nat) (r9 : Nat → Nat) (q29 : Nat) (r29 : Nat → Nat) (q38 : Nat) (q45 : Nat), va_K θ.2.2.1 vwCl (tys θ) t ∧ cd θ ws h0 0 [.ref q9, .int 0, .int (-1), .ref q29, .ref q38, .ref q45] (((([] ++ (nwO θ q9 r9 126 :: nwR θ r9 126 6)) ++ (nwO θ q29 r29 3 :: nwR θ r29 3 4)) ++ [nwI θ q38 4]) ++ [nwJ θ q45 4]) t.heap) (tA θ)) 133 905 (tA θ) := by
  refine n_met (by decide +kernel) rfl ?_
  intro p e s m args below meth c C hi hz hov ls hl hcd
  have hS : va_S (tA θ) s.heap s.heap [] := va_S.rf
  refine lv_aload_n C.1 C.2.1 dX0_init_0 rfl (lv_at hl 0 rfl) ?_
  refine W.objInit C.1 C.2.1 C.2.2.2.1 (C.2.2.2.2.1 _ w_106) (C.2.2.2.2.1 _ w_64) (C.2.2.2.2.1 _ w_oi) rfl (hl.1.trans C.2.2.1.symm) rfl dX0_init_1 (Nat.le_of_ble_eq_true rfl) (Nat.le_of_ble_eq_true rfl) ?_
  refine W.eq (g2 := F0 m 4 ls []) rfl ?_
  refine lv_aload_n C.1 C.2.1 dX0_init_4 rfl (lv_at hl 0 rfl) ?_
  refine lv_bipush (v := 126) C.1 C.2.1 dX0_init_5 (by decide) ?_
  refine lv_bipush (v := 6) C.1 C.2.1 dX0_init_7 (by decide) ?_
  refine n_mna C hov w_107 w_arrJ hcd hS hz 126 6 (by decide) (by decide) (by decide) (by decide) (Nat.le_of_ble_eq_true rfl) (Nat.le_of_ble_eq_true rfl) (Nat.le_of_ble_eq_true rfl) (Nat.le_of_ble_eq_true rfl) dX0_init_9 (fun q9 r9 H hcd hS => ?_)
  refine W.widen (k := 127) (n := 882) (Nat.le_of_ble_eq_true rfl) (Nat.le_of_ble_eq_true rfl) ?_
  refine n_put (v := .ref q9) (ty := (.array (.array .long))) C hcd hS (T := TX0) (N := 6) 0 gin0 tyX0 tyX0_ok nmX0 rfl (by decide) (Or.inr ⟨rfl, hi, rfl⟩) (by decide +kernel) rfl rfl (Nat.le_of_ble_eq_true rfl) w_108 dX0_init_13 (fun H locs hcd hS => ?_)
  have hcd : cd θ ws h0 0 [.ref q9, .int 0, .int 0, .null, .null, .null] ([] ++ (nwO θ q9 r9 126 :: nwR θ r9 126 6)) H := hcd
  refine lv_aload_n C.1 C.2.1 dX0_init_16 rfl (lv_at hl 0 rfl) ?_
  refine lv_iconst (v := 0) C.1 C.2.1 dX0_init_17 (by decide) ?_
  refine n_put (v := .int 0) (ty := .int) C hcd hS (T := TX0) (N := 6) 1 gin0 tyX0 tyX0_ok nmX0 rfl (by decide) (Or.inl rfl) (by decide +kernel) rfl rfl (Nat.le_of_ble_eq_true rfl) w_110 dX0_init_18 (fun H locs hcd hS => ?_)
  have hcd : cd θ ws h0 0 [.ref q9, .int 0, .int 0, .null, .null, .null] ([] ++ (nwO θ q9 r9 126 :: nwR θ r9 126 6)) H := hcd
  refine lv_aload_n C.1 C.2.1 dX0_init_21 rfl (lv_at hl 0 rfl) ?_
  refine lv_iconst (v := (-1)) C.1 C.2.1 dX0_init_22 (by decide) ?_
  refine n_put (v := .int (-1)) (ty := .int) C hcd hS (T := TX0) (N := 6) 2 gin0 tyX0 tyX0_ok nmX0 rfl (by decide) (Or.inl rfl) (by decide +kernel) rfl rfl (Nat.le_of_ble_eq_true rfl) w_112 dX0_init_23 (fun H locs hcd hS => ?_)
  have hcd : cd θ ws h0 0 [.ref q9, .int 0, .int (-1), .null, .null, .null] ([] ++ (nwO θ q9 r9 126 :: nwR θ r9 126 6)) H := hcd
  refine lv_aload_n C.1 C.2.1 dX0_init_26 rfl (lv_at hl 0 rfl) ?_
  refine lv_iconst (v := 3) C.1 C.2.1 dX0_init_27 (by decide) ?_
  refine lv_iconst (v := 4) C.1 C.2.1 dX0_init_28 (by decide) ?_
  refine n_mna C hov w_107 w_arrJ hcd hS hz 3 4 (by decide) (by decide) (by decide) (by decide) (Nat.le_of_ble_eq_true rfl) (Nat.le_of_ble_eq_true rfl) (Nat.le_of_ble_eq_true rfl) (Nat.le_of_ble_eq_true rfl) dX0_init_29 (fun q29 r29 H hcd hS => ?_)
  refine W.widen (k := 131) (n := 897) (Nat.le_of_ble_eq_true rfl) (Nat.le_of_ble_eq_true rfl) ?_
  refine n_put (v := .ref q29) (ty := (.array (.array .long))) C hcd hS (T := TX0) (N := 6) 3 gin0 tyX0 tyX0_ok nmX0 rfl (by decide) (Or.inr ⟨rfl, hi, rfl⟩) (by decide +kernel) rfl rfl (Nat.le_of_ble_eq_true rfl) w_113 dX0_init_33 (fun H locs hcd hS => ?_)
  have hcd : cd θ ws h0 0 [.ref q9, .int 0, .int (-1), .ref q29, .null, .null] (([] ++ (nwO θ q9 r9 126 :: nwR θ r9 126 6)) ++ (nwO θ q29 r29 3 :: nwR θ r29 3 4)) H := hcd
  refine lv_aload_n C.1 C.2.1 dX0_init_36 rfl (lv_at hl 0 rfl) ?_
  refine lv_iconst (v := 4) C.1 C.2.1 dX0_init_37 (by decide) ?_
  refine n_newI C w_arrI hcd hS hz 4 (by decide) (by decide) (Nat.le_of_ble_eq_true rfl) (Nat.le_of_ble_eq_true rfl) (Nat.le_of_ble_eq_true rfl) dX0_init_38 (fun q38 H hcd hS => ?_)
  refine W.widen (k := 132) (n := 901) (Nat.le_of_ble_eq_true rfl) (Nat.le_of_ble_eq_true rfl) ?_
  refine n_put (v := .ref q38) (ty := (.array .int)) C hcd hS (T := TX0) (N := 6) 4 gin0 tyX0 tyX0_ok nmX0 rfl (by decide) (Or.inr ⟨rfl, hi, rfl⟩) (by decide +kernel) rfl rfl (Nat.le_of_ble_eq_true rfl) w_114 dX0_init_40 (fun H locs hcd hS => ?_)
  have hcd : cd θ ws h0 0 [.ref q9, .int 0, .int (-1), .ref q29, .ref q38, .null] ((([] ++ (nwO θ q9 r9 126 :: nwR θ r9 126 6)) ++ (nwO θ q29 r29 3 :: nwR θ r29 3 4)) ++ [nwI θ q38 4]) H := hcd
  refine lv_aload_n C.1 C.2.1 dX0_init_43 rfl (lv_at hl 0 rfl) ?_
  refine lv_iconst (v := 4) C.1 C.2.1 dX0_init_44 (by decide) ?_
  refine n_newJ C w_arrJ hcd hS hz 4 (by decide) (by decide) (Nat.le_of_ble_eq_true rfl) (Nat.le_of_ble_eq_true rfl) (Nat.le_of_ble_eq_true rfl) dX0_init_45 (fun q45 H hcd hS => ?_)
  refine W.widen (k := 133) (n := 905) (Nat.le_of_ble_eq_true rfl) (Nat.le_of_ble_eq_true rfl) ?_
  refine n_put (v := .ref q45) (ty := (.array .long)) C hcd hS (T := TX0) (N := 6) 5 gin0 tyX0 tyX0_ok nmX0 rfl (by decide) (Or.inr ⟨rfl, hi, rfl⟩) (by decide +kernel) rfl rfl (Nat.le_of_ble_eq_true rfl) w_115 dX0_init_47 (fun H locs hcd hS => ?_)
  have hcd : cd θ ws h0 0 [.ref q9, .int 0, .int (-1), .ref q29, .ref q38, .ref q45] (((([] ++ (nwO θ q9 r9 126 :: nwR θ r9 126 6)) ++ (nwO θ q29 r29 3 :: nwR θ r29 3 4)) ++ [nwI θ q38 4]) ++ [nwJ θ q45 4]) H := hcd
  exact W.vret C.1 C.2.1 C.2.2.2.2.2.2.1 (fun t ht hW => ⟨⟨(), rfl, trivial, q9, r9, q29, r29, q38, q45, va_K.moved hW.alike C.2.2.2.2.2.1, by rw [ht]; exact hcd⟩, hS.F ht⟩) hS.2.2 dX0_init_50 C.2.2.2.2.2.2.2
abbrev rm_X2_init : Room := { frames := 2, cells := 144, slots := 1078, locals := 32 }
set_option maxRecDepth 100000 in
set_option maxHeartbeats 4000000 in
theorem c_X2_init (θ : Th) (l : Launch) (ws : va_W) (h0 : Nat) : Met l yX2_init (gws yX2_init cX2_init 1 none) rm_X2_init (va_Pc [.ref h0] (fun U => va_K θ.2.2.1 vwCl (tys θ) U ∧ θ.1 ≤ U.heap.size ∧ va_AOA .long U ∧ cd θ ws h0 2 [.null, .null, .null] [] U.heap)) (va_Qv (fun _ : Unit => True) (fun _ t => ∃ (q5 : Nat) (q18_9 : Nat) (r18_9 : Nat → Nat) (q27_9 : Nat) (q34_9 : Nat) (q41_9 : Nat) (q48_9 : Nat) (q16 : Nat) (q9_20 : Nat) (r9_20 : Nat → Nat) (q29_20 : Nat) (r29_20 : Nat → Nat) (q38_20 : Nat) (q45_20 : Nat) (q29 : Nat), va_K θ.2.2.1 vwCl (tys θ) t ∧ cd θ ws h0 2 [.ref q5, .ref q16, .ref q29] ((([] ++ ((q5, .inr (1, [.int 1, .int 0, .ref q18_9, .ref q27_9, .ref q34_9, .ref q41_9, .ref q48_9])) :: ((((([] ++ (nwO θ q18_9 r18_9 3 :: nwR θ r18_9 3 6)) ++ [nwI θ q27_9 3]) ++ [nwI θ q34_9 3]) ++ [nwI θ q41_9 3]) ++ [nwI θ q48_9 4]))) ++ ((q16, .inr (0, [.ref q9_20, .int 0, .int (-1), .ref q29_20, .ref q38_20, .ref q45_20])) :: (((([] ++ (nwO θ q9_20 r9_20 126 :: nwR θ r9_20 126 6)) ++ (nwO θ q29_20 r29_20 3 :: nwR θ r29_20 3 4)) ++ [nwI θ q38_20 4]) ++ [nwJ θ q45_20 4]))) ++ [nwI θ q29 126]) t.heap) (tA θ)) 144 1078 (tA θ) := by
  refine n_met (by decide +kernel) rfl ?_
  intro p e s m args below meth c C hi hz hov ls hl hcd
  have hS : va_S (tA θ) s.heap s.heap [] := va_S.rf
  refine lv_aload_n C.1 C.2.1 dX2_init_0 rfl (lv_at hl 0 rfl) ?_
  refine W.objInit C.1 C.2.1 C.2.2.2.1 (C.2.2.2.2.1 _ w_63) (C.2.2.2.2.1 _ w_64) (C.2.2.2.2.1 _ w_oi) rfl (hl.1.trans C.2.2.1.symm) rfl dX2_init_1 (Nat.le_of_ble_eq_true rfl) (Nat.le_of_ble_eq_true rfl) ?_
  refine W.eq (g2 := F0 m 4 ls []) rfl ?_
  refine lv_aload_n C.1 C.2.1 dX2_init_4 rfl (lv_at hl 0 rfl) ?_
  refine n_new (cj := 1) (gs := [.int 0, .int 0, .null, .null, .null, .null, .null]) (T := TX1) (N := 7) C gin1 tyX1 tyX1_ok w_66 w_insX1 w_45 hcd hS hz rfl (by decide) (Nat.le_of_ble_eq_true rfl) (Nat.le_of_ble_eq_true rfl) dX2_init_5 (fun q5 H hcd hS => ?_)
  refine W.widen (k := 1) (n := 7) (Nat.le_of_ble_eq_true rfl) (Nat.le_of_ble_eq_true rfl) ?_
  refine lv_dup C.1 C.2.1 dX2_init_8 rfl ?_
  refine n_init C cf_X1_init w_69 rfl w_68 hov (c_X1_init θ l _ q5) ⟨rfl, rfl, Nat.le_of_ble_eq_true rfl, Nat.le_of_ble_eq_true rfl⟩ hcd hS hz hl.1 (Nat.le_of_ble_eq_true rfl) dX2_init_9 ⟨Nat.le_of_ble_eq_true rfl, Nat.le_of_ble_eq_true rfl⟩ (fun t H locs ht hB hS => ?_)
  refine W.widen (k := 9) (n := 41) (Nat.le_of_ble_eq_true rfl) (Nat.le_of_ble_eq_true rfl) ?_
  obtain ⟨q18_9, r18_9, q27_9, q34_9, q41_9, q48_9, hK9, hcd⟩ := hB
  subst ht
  have hcd := cd_in.mp hcd
  refine n_put (v := .ref q5) (ty := (.object "RationalProgram$Sheet")) C hcd hS (T := TX2) (N := 3) 0 gin2 tyX2 tyX2_ok nmX2 rfl (by decide) (Or.inr ⟨rfl, hi, rfl⟩) (by decide +kernel) rfl rfl (Nat.le_of_ble_eq_true rfl) w_129 dX2_init_12 (fun H locs hcd hS => ?_)
  have hcd : cd θ ws h0 2 [.ref q5, .null, .null] ([] ++ ((q5, .inr (1, [.int 1, .int 0, .ref q18_9, .ref q27_9, .ref q34_9, .ref q41_9, .ref q48_9])) :: ((((([] ++ (nwO θ q18_9 r18_9 3 :: nwR θ r18_9 3 6)) ++ [nwI θ q27_9 3]) ++ [nwI θ q34_9 3]) ++ [nwI θ q41_9 3]) ++ [nwI θ q48_9 4]))) H := hcd
  refine lv_aload_n C.1 C.2.1 dX2_init_15 rfl (lv_at hl 0 rfl) ?_
  refine n_new (cj := 0) (gs := [.null, .int 0, .int 0, .null, .null, .null]) (T := TX0) (N := 6) C gin0 tyX0 tyX0_ok w_101 w_insX0 w_46 hcd hS hz rfl (by decide) (Nat.le_of_ble_eq_true rfl) (Nat.le_of_ble_eq_true rfl) dX2_init_16 (fun q16 H hcd hS => ?_)
  refine W.widen (k := 10) (n := 47) (Nat.le_of_ble_eq_true rfl) (Nat.le_of_ble_eq_true rfl) ?_
  refine lv_dup C.1 C.2.1 dX2_init_19 rfl ?_
  refine n_init C cf_X0_init w_104 rfl w_103 hov (c_X0_init θ l _ q16) ⟨rfl, rfl, Nat.le_of_ble_eq_true rfl, Nat.le_of_ble_eq_true rfl⟩ hcd hS hz hl.1 (Nat.le_of_ble_eq_true rfl) dX2_init_20 ⟨Nat.le_of_ble_eq_true rfl, Nat.le_of_ble_eq_true rfl⟩ (fun t H locs ht hB hS => ?_)
  refine W.widen (k := 143) (n := 952) (Nat.le_of_ble_eq_true rfl) (Nat.le_of_ble_eq_true rfl) ?_
  obtain ⟨q9_20, r9_20, q29_20, r29_20, q38_20, q45_20, hK9, hcd⟩ := hB
  subst ht
  have hcd := cd_in.mp hcd
  refine n_put (v := .ref q16) (ty := (.object "RationalProgram$Cone")) C hcd hS (T := TX2) (N := 3) 1 gin2 tyX2 tyX2_ok nmX2 rfl (by decide) (Or.inr ⟨rfl, hi, rfl⟩) (by decide +kernel) rfl rfl (Nat.le_of_ble_eq_true rfl) w_130 dX2_init_23 (fun H locs hcd hS => ?_)
  have hcd : cd θ ws h0 2 [.ref q5, .ref q16, .null] (([] ++ ((q5, .inr (1, [.int 1, .int 0, .ref q18_9, .ref q27_9, .ref q34_9, .ref q41_9, .ref q48_9])) :: ((((([] ++ (nwO θ q18_9 r18_9 3 :: nwR θ r18_9 3 6)) ++ [nwI θ q27_9 3]) ++ [nwI θ q34_9 3]) ++ [nwI θ q41_9 3]) ++ [nwI θ q48_9 4]))) ++ ((q16, .inr (0, [.ref q9_20, .int 0, .int (-1), .ref q29_20, .ref q38_20, .ref q45_20])) :: (((([] ++ (nwO θ q9_20 r9_20 126 :: nwR θ r9_20 126 6)) ++ (nwO θ q29_20 r29_20 3 :: nwR θ r29_20 3 4)) ++ [nwI θ q38_20 4]) ++ [nwJ θ q45_20 4]))) H := hcd
  refine lv_aload_n C.1 C.2.1 dX2_init_26 rfl (lv_at hl 0 rfl) ?_
  refine lv_bipush (v := 126) C.1 C.2.1 dX2_init_27 (by decide) ?_
  refine n_newI C w_arrI hcd hS hz 126 (by decide) (by decide) (Nat.le_of_ble_eq_true rfl) (Nat.le_of_ble_eq_true rfl) (Nat.le_of_ble_eq_true rfl) dX2_init_29 (fun q29 H hcd hS => ?_)
  refine W.widen (k := 144) (n := 1078) (Nat.le_of_ble_eq_true rfl) (Nat.le_of_ble_eq_true rfl) ?_
  refine n_put (v := .ref q29) (ty := (.array .int)) C hcd hS (T := TX2) (N := 3) 2 gin2 tyX2 tyX2_ok nmX2 rfl (by decide) (Or.inr ⟨rfl, hi, rfl⟩) (by decide +kernel) rfl rfl (Nat.le_of_ble_eq_true rfl) w_131 dX2_init_31 (fun H locs hcd hS => ?_)
  have hcd : cd θ ws h0 2 [.ref q5, .ref q16, .ref q29] ((([] ++ ((q5, .inr (1, [.int 1, .int 0, .ref q18_9, .ref q27_9, .ref q34_9, .ref q41_9, .ref q48_9])) :: ((((([] ++ (nwO θ q18_9 r18_9 3 :: nwR θ r18_9 3 6)) ++ [nwI θ q27_9 3]) ++ [nwI θ q34_9 3]) ++ [nwI θ q41_9 3]) ++ [nwI θ q48_9 4]))) ++ ((q16, .inr (0, [.ref q9_20, .int 0, .int (-1), .ref q29_20, .ref q38_20, .ref q45_20])) :: (((([] ++ (nwO θ q9_20 r9_20 126 :: nwR θ r9_20 126 6)) ++ (nwO θ q29_20 r29_20 3 :: nwR θ r29_20 3 4)) ++ [nwI θ q38_20 4]) ++ [nwJ θ q45_20 4]))) ++ [nwI θ q29 126]) H := hcd
  exact W.vret C.1 C.2.1 C.2.2.2.2.2.2.1 (fun t ht hW => ⟨⟨(), rfl, trivial, q5, q18_9, r18_9, q27_9, q34_9, q41_9, q48_9, q16, q9_20, r9_20, q29_20, r29_20, q38_20, q45_20, q29, va_K.moved hW.alike C.2.2.2.2.2.1, by rw [ht]; exact hcd⟩, hS.F ht⟩) hS.2.2 dX2_init_34 C.2.2.2.2.2.2.2
