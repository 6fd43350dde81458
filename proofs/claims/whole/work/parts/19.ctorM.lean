set_option maxRecDepth 100000 in
theorem w_524 : Cond.methodLink RX3 1 ⟨"java/lang/Object", "<init>", "()V"⟩ ∈ gw := gw_in 524 (by decide +kernel) rfl
set_option maxRecDepth 100000 in
theorem w_64 : Cond.instanceMethod ⟨"java/lang/Object", "<init>", "()V"⟩ ∈ gw := gw_in 64 (by decide +kernel) rfl
set_option maxRecDepth 100000 in
theorem w_253 : Cond.methodLink RL 7 yX2_begin ∈ gw := gw_in 253 (by decide +kernel) rfl
set_option maxRecDepth 100000 in
theorem w_252 : Cond.classLink RL 13 "java/lang/IllegalArgumentException" ∈ gw := gw_in 252 (by decide +kernel) rfl
set_option maxRecDepth 100000 in
theorem w_333 : Cond.methodLink RL 15 yX2_coefficient ∈ gw := gw_in 333 (by decide +kernel) rfl
set_option maxRecDepth 100000 in
theorem w_332 : Cond.classLink RL 19 "java/lang/IndexOutOfBoundsException" ∈ gw := gw_in 332 (by decide +kernel) rfl
set_option maxRecDepth 100000 in
theorem w_370 : Cond.methodLink RL 21 yX2_row ∈ gw := gw_in 370 (by decide +kernel) rfl
set_option maxRecDepth 100000 in
theorem w_385 : Cond.methodLink RL 24 yX2_want ∈ gw := gw_in 385 (by decide +kernel) rfl
set_option maxRecDepth 100000 in
theorem w_396 : Cond.methodLink RL 27 yX2_drift ∈ gw := gw_in 396 (by decide +kernel) rfl
set_option maxRecDepth 100000 in
theorem w_408 : Cond.methodLink RL 30 yX2_value ∈ gw := gw_in 408 (by decide +kernel) rfl
set_option maxRecDepth 100000 in
theorem w_407 : Cond.classLink RL 34 "java/lang/IllegalStateException" ∈ gw := gw_in 407 (by decide +kernel) rfl
set_option maxRecDepth 100000 in
theorem w_455 : Cond.methodLink RL 36 yX2_point ∈ gw := gw_in 455 (by decide +kernel) rfl
set_option maxRecDepth 100000 in
theorem w_463 : Cond.methodLink RL 40 yX2_range ∈ gw := gw_in 463 (by decide +kernel) rfl
set_option maxRecDepth 100000 in
theorem w_462 : Cond.classLink RL 44 "java/lang/UnsupportedOperationException" ∈ gw := gw_in 462 (by decide +kernel) rfl
set_option maxRecDepth 100000 in
theorem w_496 : Cond.methodLink RL 46 yX2_tight ∈ gw := gw_in 496 (by decide +kernel) rfl
set_option maxRecDepth 100000 in
theorem w_508 : Cond.methodLink RL 50 yX2_conflict ∈ gw := gw_in 508 (by decide +kernel) rfl
set_option maxRecDepth 100000 in
theorem w_515 : Cond.methodLink RL 54 yX2_corner ∈ gw := gw_in 515 (by decide +kernel) rfl
set_option maxRecDepth 100000 in
theorem w_699 : Cond.methodLink RL 98 yX3_range ∈ gw := gw_in 699 (by decide +kernel) rfl
set_option maxRecDepth 100000 in
theorem w_586 : Cond.methodLink RL 67 yX3_thrown ∈ gw := gw_in 586 (by decide +kernel) rfl
set_option maxRecDepth 100000 in
theorem w_459 : Cond.methodLink RL 95 yL_range ∈ gw := gw_in 459 (by decide +kernel) rfl
set_option maxRecDepth 100000 in
theorem w_249 : Cond.methodLink RL 61 yL_begin ∈ gw := gw_in 249 (by decide +kernel) rfl
set_option maxRecDepth 100000 in
theorem w_590 : Cond.methodLink RL 66 yX3_begin ∈ gw := gw_in 590 (by decide +kernel) rfl
set_option maxRecDepth 100000 in
theorem w_329 : Cond.methodLink RL 70 yL_coefficient ∈ gw := gw_in 329 (by decide +kernel) rfl
set_option maxRecDepth 100000 in
theorem w_601 : Cond.methodLink RL 73 yX3_coefficient ∈ gw := gw_in 601 (by decide +kernel) rfl
set_option maxRecDepth 100000 in
theorem w_367 : Cond.methodLink RL 74 yL_row ∈ gw := gw_in 367 (by decide +kernel) rfl
set_option maxRecDepth 100000 in
theorem w_605 : Cond.methodLink RL 76 yX3_row ∈ gw := gw_in 605 (by decide +kernel) rfl
set_option maxRecDepth 100000 in
theorem w_382 : Cond.methodLink RL 77 yL_want ∈ gw := gw_in 382 (by decide +kernel) rfl
set_option maxRecDepth 100000 in
theorem w_609 : Cond.methodLink RL 79 yX3_want ∈ gw := gw_in 609 (by decide +kernel) rfl
set_option maxRecDepth 100000 in
theorem w_393 : Cond.methodLink RL 80 yL_drift ∈ gw := gw_in 393 (by decide +kernel) rfl
set_option maxRecDepth 100000 in
theorem w_613 : Cond.methodLink RL 82 yX3_drift ∈ gw := gw_in 613 (by decide +kernel) rfl
set_option maxRecDepth 100000 in
theorem w_139 : Cond.methodLink RL 83 yX2_solve ∈ gw := gw_in 139 (by decide +kernel) rfl
set_option maxRecDepth 100000 in
theorem w_617 : Cond.methodLink RL 86 yX3_solve ∈ gw := gw_in 617 (by decide +kernel) rfl
set_option maxRecDepth 100000 in
theorem w_404 : Cond.methodLink RL 87 yL_value ∈ gw := gw_in 404 (by decide +kernel) rfl
set_option maxRecDepth 100000 in
theorem w_674 : Cond.methodLink RL 90 yX3_value ∈ gw := gw_in 674 (by decide +kernel) rfl
set_option maxRecDepth 100000 in
theorem w_452 : Cond.methodLink RL 91 yL_point ∈ gw := gw_in 452 (by decide +kernel) rfl
set_option maxRecDepth 100000 in
theorem w_695 : Cond.methodLink RL 94 yX3_point ∈ gw := gw_in 695 (by decide +kernel) rfl
set_option maxRecDepth 100000 in
theorem w_493 : Cond.methodLink RL 99 yL_tight ∈ gw := gw_in 493 (by decide +kernel) rfl
set_option maxRecDepth 100000 in
theorem w_707 : Cond.methodLink RL 101 yX3_tight ∈ gw := gw_in 707 (by decide +kernel) rfl
set_option maxRecDepth 100000 in
theorem w_505 : Cond.methodLink RL 102 yL_conflict ∈ gw := gw_in 505 (by decide +kernel) rfl
set_option maxRecDepth 100000 in
theorem w_715 : Cond.methodLink RL 105 yX3_conflict ∈ gw := gw_in 715 (by decide +kernel) rfl
set_option maxRecDepth 100000 in
theorem w_215 : Cond.methodLink RL 106 yX2_corners ∈ gw := gw_in 215 (by decide +kernel) rfl
set_option maxRecDepth 100000 in
theorem w_719 : Cond.methodLink RL 109 yX3_corners ∈ gw := gw_in 719 (by decide +kernel) rfl
set_option maxRecDepth 100000 in
theorem w_512 : Cond.methodLink RL 110 yL_corner ∈ gw := gw_in 512 (by decide +kernel) rfl
set_option maxRecDepth 100000 in
theorem w_735 : Cond.methodLink RL 112 yX3_corner ∈ gw := gw_in 735 (by decide +kernel) rfl
set_option maxRecDepth 100000 in
theorem w_71 : Cond.methodLink RX1 3 ⟨"java/lang/Object", "<init>", "()V"⟩ ∈ gw := gw_in 71 (by decide +kernel) rfl
set_option maxRecDepth 100000 in
theorem w_72 : Cond.classLink RX1 18 "[[J" ∈ gw := gw_in 72 (by decide +kernel) rfl
set_option maxRecDepth 100000 in
theorem w_106 : Cond.methodLink RX0 3 ⟨"java/lang/Object", "<init>", "()V"⟩ ∈ gw := gw_in 106 (by decide +kernel) rfl
set_option maxRecDepth 100000 in
theorem w_107 : Cond.classLink RX0 9 "[[J" ∈ gw := gw_in 107 (by decide +kernel) rfl
set_option maxRecDepth 100000 in
theorem w_63 : Cond.methodLink RX2 3 ⟨"java/lang/Object", "<init>", "()V"⟩ ∈ gw := gw_in 63 (by decide +kernel) rfl
set_option maxRecDepth 100000 in
theorem w_66 : Cond.classLink RX2 9 "RationalProgram$Sheet" ∈ gw := gw_in 66 (by decide +kernel) rfl
set_option maxRecDepth 100000 in
theorem w_45 : Cond.initialized RX1 ∈ gw := gw_in 45 (by decide +kernel) rfl
set_option maxRecDepth 100000 in
theorem w_69 : Cond.instanceMethod yX1_init ∈ gw := gw_in 69 (by decide +kernel) rfl
set_option maxRecDepth 100000 in
theorem w_68 : Cond.methodLink RX2 11 yX1_init ∈ gw := gw_in 68 (by decide +kernel) rfl
set_option maxRecDepth 100000 in
theorem w_101 : Cond.classLink RX2 16 "RationalProgram$Cone" ∈ gw := gw_in 101 (by decide +kernel) rfl
set_option maxRecDepth 100000 in
theorem w_46 : Cond.initialized RX0 ∈ gw := gw_in 46 (by decide +kernel) rfl
set_option maxRecDepth 100000 in
theorem w_104 : Cond.instanceMethod yX0_init ∈ gw := gw_in 104 (by decide +kernel) rfl
set_option maxRecDepth 100000 in
theorem w_103 : Cond.methodLink RX2 18 yX0_init ∈ gw := gw_in 103 (by decide +kernel) rfl
set_option maxRecDepth 100000 in
theorem w_arrI : Cond.arrayClass .int ∈ gw := gw_in 100 (by decide +kernel) rfl
set_option maxRecDepth 100000 in
theorem w_arrJ : Cond.arrayClass .long ∈ gw := gw_in 99 (by decide +kernel) rfl
set_option maxRecDepth 100000 in
theorem w_oi : Cond.code Lib.objectInit ⟨#[0xb1]⟩ 1 none ∈ gw := gw_in 65 rfl rfl
abbrev rm_X3_init : Room := { frames := 1, cells := 13, slots := 1158, locals := 12 }
set_option maxRecDepth 100000 in
set_option maxHeartbeats 4000000 in
theorem c_X3_init (θ : Th) (l : Launch) (ws : va_W) (h0 : Nat) : Met l yX3_init (gws yX3_init cX3_init 1 none) rm_X3_init (va_Pc [.ref h0] (fun U => va_K θ.2.2.1 vwCl (tys θ) U ∧ θ.1 ≤ U.heap.size ∧ va_AOA .long U ∧ cd θ ws h0 3 [.int 0, .int 0, .null, .null, .null, .null, .null, .int 0, .int 0, .int 0, .null, .null, .null, .null, .int 0, .null, .null, .null, .int 0, .null] [] U.heap)) (va_Qv (fun _ : Unit => True) (fun _ t => ∃ (q12 : Nat) (q19 : Nat) (q26 : Nat) (q33 : Nat) (q40 : Nat) (q48 : Nat) (q56 : Nat) (q64 : Nat) (q72 : Nat) (q81 : Nat) (q90 : Nat) (q99 : Nat) (q108 : Nat), va_K θ.2.2.1 vwCl (tys θ) t ∧ cd θ ws h0 3 [.int 1, .int 0, .ref q12, .ref q19, .ref q26, .ref q33, .ref q40, .int 0, .int 0, .int 0, .ref q48, .ref q56, .ref q64, .ref q72, .int 0, .ref q81, .ref q90, .ref q99, .int 0, .ref q108] ((((((((((((([] ++ [nwI θ q12 12]) ++ [nwI θ q19 3]) ++ [nwI θ q26 4]) ++ [nwI θ q33 3]) ++ [nwI θ q40 3]) ++ [nwI θ q48 45]) ++ [nwI θ q56 9]) ++ [nwI θ q64 9]) ++ [nwJ θ q72 30]) ++ [nwJ θ q81 650]) ++ [nwJ θ q90 130]) ++ [nwJ θ q99 130]) ++ [nwI θ q108 130]) t.heap) (tA θ)) 13 1158 (tA θ) := by
  refine n_met (by decide +kernel) rfl ?_
  intro p e s m args below meth c C hi hz hov ls hl hcd
  have hS : va_S (tA θ) s.heap s.heap [] := va_S.rf
  refine lv_aload_n C.1 C.2.1 dX3_init_0 rfl (lv_at hl 0 rfl) ?_
  refine W.objInit C.1 C.2.1 C.2.2.2.1 (C.2.2.2.2.1 _ w_524) (C.2.2.2.2.1 _ w_64) (C.2.2.2.2.1 _ w_oi) rfl (hl.1.trans C.2.2.1.symm) rfl dX3_init_1 (Nat.le_of_ble_eq_true rfl) (Nat.le_of_ble_eq_true rfl) ?_
  refine W.eq (g2 := F0 m 4 ls []) rfl ?_
  refine lv_aload_n C.1 C.2.1 dX3_init_4 rfl (lv_at hl 0 rfl) ?_
  refine lv_iconst (v := 1) C.1 C.2.1 dX3_init_5 (by decide) ?_
  refine n_put (v := .int 1) (ty := .int) C hcd hS (T := TX3) (N := 20) 0 gin3 tyX3 tyX3_ok nmX3 rfl (by decide) (Or.inl rfl) (by decide +kernel) rfl rfl (Nat.le_of_ble_eq_true rfl) w_525 dX3_init_6 (fun H locs hcd hS => ?_)
  have hcd : cd θ ws h0 3 [.int 1, .int 0, .null, .null, .null, .null, .null, .int 0, .int 0, .int 0, .null, .null, .null, .null, .int 0, .null, .null, .null, .int 0, .null] [] H := hcd
  refine lv_aload_n C.1 C.2.1 dX3_init_9 rfl (lv_at hl 0 rfl) ?_
  refine lv_bipush (v := 12) C.1 C.2.1 dX3_init_10 (by decide) ?_
  refine n_newI C w_arrI hcd hS hz 12 (by decide) (by decide) (Nat.le_of_ble_eq_true rfl) (Nat.le_of_ble_eq_true rfl) (Nat.le_of_ble_eq_true rfl) dX3_init_12 (fun q12 H hcd hS => ?_)
  refine W.widen (k := 1) (n := 12) (Nat.le_of_ble_eq_true rfl) (Nat.le_of_ble_eq_true rfl) ?_
  refine n_put (v := .ref q12) (ty := (.array .int)) C hcd hS (T := TX3) (N := 20) 2 gin3 tyX3 tyX3_ok nmX3 rfl (by decide) (Or.inr ⟨rfl, hi, rfl⟩) (by decide +kernel) rfl rfl (Nat.le_of_ble_eq_true rfl) w_527 dX3_init_14 (fun H locs hcd hS => ?_)
  have hcd : cd θ ws h0 3 [.int 1, .int 0, .ref q12, .null, .null, .null, .null, .int 0, .int 0, .int 0, .null, .null, .null, .null, .int 0, .null, .null, .null, .int 0, .null] ([] ++ [nwI θ q12 12]) H := hcd
  refine lv_aload_n C.1 C.2.1 dX3_init_17 rfl (lv_at hl 0 rfl) ?_
  refine lv_iconst (v := 3) C.1 C.2.1 dX3_init_18 (by decide) ?_
  refine n_newI C w_arrI hcd hS hz 3 (by decide) (by decide) (Nat.le_of_ble_eq_true rfl) (Nat.le_of_ble_eq_true rfl) (Nat.le_of_ble_eq_true rfl) dX3_init_19 (fun q19 H hcd hS => ?_)
  refine W.widen (k := 2) (n := 15) (Nat.le_of_ble_eq_true rfl) (Nat.le_of_ble_eq_true rfl) ?_
  refine n_put (v := .ref q19) (ty := (.array .int)) C hcd hS (T := TX3) (N := 20) 3 gin3 tyX3 tyX3_ok nmX3 rfl (by decide) (Or.inr ⟨rfl, hi, rfl⟩) (by decide +kernel) rfl rfl (Nat.le_of_ble_eq_true rfl) w_528 dX3_init_21 (fun H locs hcd hS => ?_)
  have hcd : cd θ ws h0 3 [.int 1, .int 0, .ref q12, .ref q19, .null, .null, .null, .int 0, .int 0, .int 0, .null, .null, .null, .null, .int 0, .null, .null, .null, .int 0, .null] (([] ++ [nwI θ q12 12]) ++ [nwI θ q19 3]) H := hcd
  refine lv_aload_n C.1 C.2.1 dX3_init_24 rfl (lv_at hl 0 rfl) ?_
  refine lv_iconst (v := 4) C.1 C.2.1 dX3_init_25 (by decide) ?_
  refine n_newI C w_arrI hcd hS hz 4 (by decide) (by decide) (Nat.le_of_ble_eq_true rfl) (Nat.le_of_ble_eq_true rfl) (Nat.le_of_ble_eq_true rfl) dX3_init_26 (fun q26 H hcd hS => ?_)
  refine W.widen (k := 3) (n := 19) (Nat.le_of_ble_eq_true rfl) (Nat.le_of_ble_eq_true rfl) ?_
  refine n_put (v := .ref q26) (ty := (.array .int)) C hcd hS (T := TX3) (N := 20) 4 gin3 tyX3 tyX3_ok nmX3 rfl (by decide) (Or.inr ⟨rfl, hi, rfl⟩) (by decide +kernel) rfl rfl (Nat.le_of_ble_eq_true rfl) w_529 dX3_init_28 (fun H locs hcd hS => ?_)
  have hcd : cd θ ws h0 3 [.int 1, .int 0, .ref q12, .ref q19, .ref q26, .null, .null, .int 0, .int 0, .int 0, .null, .null, .null, .null, .int 0, .null, .null, .null, .int 0, .null] ((([] ++ [nwI θ q12 12]) ++ [nwI θ q19 3]) ++ [nwI θ q26 4]) H := hcd
  refine lv_aload_n C.1 C.2.1 dX3_init_31 rfl (lv_at hl 0 rfl) ?_
  refine lv_iconst (v := 3) C.1 C.2.1 dX3_init_32 (by decide) ?_
  refine n_newI C w_arrI hcd hS hz 3 (by decide) (by decide) (Nat.le_of_ble_eq_true rfl) (Nat.le_of_ble_eq_true rfl) (Nat.le_of_ble_eq_true rfl) dX3_init_33 (fun q33 H hcd hS => ?_)
  refine W.widen (k := 4) (n := 22) (Nat.le_of_ble_eq_true rfl) (Nat.le_of_ble_eq_true rfl) ?_
  refine n_put (v := .ref q33) (ty := (.array .int)) C hcd hS (T := TX3) (N := 20) 5 gin3 tyX3 tyX3_ok nmX3 rfl (by decide) (Or.inr ⟨rfl, hi, rfl⟩) (by decide +kernel) rfl rfl (Nat.le_of_ble_eq_true rfl) w_530 dX3_init_35 (fun H locs hcd hS => ?_)
  have hcd : cd θ ws h0 3 [.int 1, .int 0, .ref q12, .ref q19, .ref q26, .ref q33, .null, .int 0, .int 0, .int 0, .null, .null, .null, .null, .int 0, .null, .null, .null, .int 0, .null] (((([] ++ [nwI θ q12 12]) ++ [nwI θ q19 3]) ++ [nwI θ q26 4]) ++ [nwI θ q33 3]) H := hcd
  refine lv_aload_n C.1 C.2.1 dX3_init_38 rfl (lv_at hl 0 rfl) ?_
  refine lv_iconst (v := 3) C.1 C.2.1 dX3_init_39 (by decide) ?_
  refine n_newI C w_arrI hcd hS hz 3 (by decide) (by decide) (Nat.le_of_ble_eq_true rfl) (Nat.le_of_ble_eq_true rfl) (Nat.le_of_ble_eq_true rfl) dX3_init_40 (fun q40 H hcd hS => ?_)
  refine W.widen (k := 5) (n := 25) (Nat.le_of_ble_eq_true rfl) (Nat.le_of_ble_eq_true rfl) ?_
  refine n_put (v := .ref q40) (ty := (.array .int)) C hcd hS (T := TX3) (N := 20) 6 gin3 tyX3 tyX3_ok nmX3 rfl (by decide) (Or.inr ⟨rfl, hi, rfl⟩) (by decide +kernel) rfl rfl (Nat.le_of_ble_eq_true rfl) w_531 dX3_init_42 (fun H locs hcd hS => ?_)
  have hcd : cd θ ws h0 3 [.int 1, .int 0, .ref q12, .ref q19, .ref q26, .ref q33, .ref q40, .int 0, .int 0, .int 0, .null, .null, .null, .null, .int 0, .null, .null, .null, .int 0, .null] ((((([] ++ [nwI θ q12 12]) ++ [nwI θ q19 3]) ++ [nwI θ q26 4]) ++ [nwI θ q33 3]) ++ [nwI θ q40 3]) H := hcd
  refine lv_aload_n C.1 C.2.1 dX3_init_45 rfl (lv_at hl 0 rfl) ?_
  refine lv_bipush (v := 45) C.1 C.2.1 dX3_init_46 (by decide) ?_
  refine n_newI C w_arrI hcd hS hz 45 (by decide) (by decide) (Nat.le_of_ble_eq_true rfl) (Nat.le_of_ble_eq_true rfl) (Nat.le_of_ble_eq_true rfl) dX3_init_48 (fun q48 H hcd hS => ?_)
  refine W.widen (k := 6) (n := 70) (Nat.le_of_ble_eq_true rfl) (Nat.le_of_ble_eq_true rfl) ?_
  refine n_put (v := .ref q48) (ty := (.array .int)) C hcd hS (T := TX3) (N := 20) 10 gin3 tyX3 tyX3_ok nmX3 rfl (by decide) (Or.inr ⟨rfl, hi, rfl⟩) (by decide +kernel) rfl rfl (Nat.le_of_ble_eq_true rfl) w_535 dX3_init_50 (fun H locs hcd hS => ?_)
  have hcd : cd θ ws h0 3 [.int 1, .int 0, .ref q12, .ref q19, .ref q26, .ref q33, .ref q40, .int 0, .int 0, .int 0, .ref q48, .null, .null, .null, .int 0, .null, .null, .null, .int 0, .null] (((((([] ++ [nwI θ q12 12]) ++ [nwI θ q19 3]) ++ [nwI θ q26 4]) ++ [nwI θ q33 3]) ++ [nwI θ q40 3]) ++ [nwI θ q48 45]) H := hcd
  refine lv_aload_n C.1 C.2.1 dX3_init_53 rfl (lv_at hl 0 rfl) ?_
  refine lv_bipush (v := 9) C.1 C.2.1 dX3_init_54 (by decide) ?_
  refine n_newI C w_arrI hcd hS hz 9 (by decide) (by decide) (Nat.le_of_ble_eq_true rfl) (Nat.le_of_ble_eq_true rfl) (Nat.le_of_ble_eq_true rfl) dX3_init_56 (fun q56 H hcd hS => ?_)
  refine W.widen (k := 7) (n := 79) (Nat.le_of_ble_eq_true rfl) (Nat.le_of_ble_eq_true rfl) ?_
  refine n_put (v := .ref q56) (ty := (.array .int)) C hcd hS (T := TX3) (N := 20) 11 gin3 tyX3 tyX3_ok nmX3 rfl (by decide) (Or.inr ⟨rfl, hi, rfl⟩) (by decide +kernel) rfl rfl (Nat.le_of_ble_eq_true rfl) w_536 dX3_init_58 (fun H locs hcd hS => ?_)
  have hcd : cd θ ws h0 3 [.int 1, .int 0, .ref q12, .ref q19, .ref q26, .ref q33, .ref q40, .int 0, .int 0, .int 0, .ref q48, .ref q56, .null, .null, .int 0, .null, .null, .null, .int 0, .null] ((((((([] ++ [nwI θ q12 12]) ++ [nwI θ q19 3]) ++ [nwI θ q26 4]) ++ [nwI θ q33 3]) ++ [nwI θ q40 3]) ++ [nwI θ q48 45]) ++ [nwI θ q56 9]) H := hcd
  refine lv_aload_n C.1 C.2.1 dX3_init_61 rfl (lv_at hl 0 rfl) ?_
  refine lv_bipush (v := 9) C.1 C.2.1 dX3_init_62 (by decide) ?_
  refine n_newI C w_arrI hcd hS hz 9 (by decide) (by decide) (Nat.le_of_ble_eq_true rfl) (Nat.le_of_ble_eq_true rfl) (Nat.le_of_ble_eq_true rfl) dX3_init_64 (fun q64 H hcd hS => ?_)
  refine W.widen (k := 8) (n := 88) (Nat.le_of_ble_eq_true rfl) (Nat.le_of_ble_eq_true rfl) ?_
  refine n_put (v := .ref q64) (ty := (.array .int)) C hcd hS (T := TX3) (N := 20) 12 gin3 tyX3 tyX3_ok nmX3 rfl (by decide) (Or.inr ⟨rfl, hi, rfl⟩) (by decide +kernel) rfl rfl (Nat.le_of_ble_eq_true rfl) w_537 dX3_init_66 (fun H locs hcd hS => ?_)
  have hcd : cd θ ws h0 3 [.int 1, .int 0, .ref q12, .ref q19, .ref q26, .ref q33, .ref q40, .int 0, .int 0, .int 0, .ref q48, .ref q56, .ref q64, .null, .int 0, .null, .null, .null, .int 0, .null] (((((((([] ++ [nwI θ q12 12]) ++ [nwI θ q19 3]) ++ [nwI θ q26 4]) ++ [nwI θ q33 3]) ++ [nwI θ q40 3]) ++ [nwI θ q48 45]) ++ [nwI θ q56 9]) ++ [nwI θ q64 9]) H := hcd
  refine lv_aload_n C.1 C.2.1 dX3_init_69 rfl (lv_at hl 0 rfl) ?_
  refine lv_bipush (v := 30) C.1 C.2.1 dX3_init_70 (by decide) ?_
  refine n_newJ C w_arrJ hcd hS hz 30 (by decide) (by decide) (Nat.le_of_ble_eq_true rfl) (Nat.le_of_ble_eq_true rfl) (Nat.le_of_ble_eq_true rfl) dX3_init_72 (fun q72 H hcd hS => ?_)
  refine W.widen (k := 9) (n := 118) (Nat.le_of_ble_eq_true rfl) (Nat.le_of_ble_eq_true rfl) ?_
  refine n_put (v := .ref q72) (ty := (.array .long)) C hcd hS (T := TX3) (N := 20) 13 gin3 tyX3 tyX3_ok nmX3 rfl (by decide) (Or.inr ⟨rfl, hi, rfl⟩) (by decide +kernel) rfl rfl (Nat.le_of_ble_eq_true rfl) w_538 dX3_init_74 (fun H locs hcd hS => ?_)
  have hcd : cd θ ws h0 3 [.int 1, .int 0, .ref q12, .ref q19, .ref q26, .ref q33, .ref q40, .int 0, .int 0, .int 0, .ref q48, .ref q56, .ref q64, .ref q72, .int 0, .null, .null, .null, .int 0, .null] ((((((((([] ++ [nwI θ q12 12]) ++ [nwI θ q19 3]) ++ [nwI θ q26 4]) ++ [nwI θ q33 3]) ++ [nwI θ q40 3]) ++ [nwI θ q48 45]) ++ [nwI θ q56 9]) ++ [nwI θ q64 9]) ++ [nwJ θ q72 30]) H := hcd
  refine lv_aload_n C.1 C.2.1 dX3_init_77 rfl (lv_at hl 0 rfl) ?_
  refine lv_sipush (v := 650) C.1 C.2.1 dX3_init_78 (by decide) ?_
  refine n_newJ C w_arrJ hcd hS hz 650 (by decide) (by decide) (Nat.le_of_ble_eq_true rfl) (Nat.le_of_ble_eq_true rfl) (Nat.le_of_ble_eq_true rfl) dX3_init_81 (fun q81 H hcd hS => ?_)
  refine W.widen (k := 10) (n := 768) (Nat.le_of_ble_eq_true rfl) (Nat.le_of_ble_eq_true rfl) ?_
  refine n_put (v := .ref q81) (ty := (.array .long)) C hcd hS (T := TX3) (N := 20) 15 gin3 tyX3 tyX3_ok nmX3 rfl (by decide) (Or.inr ⟨rfl, hi, rfl⟩) (by decide +kernel) rfl rfl (Nat.le_of_ble_eq_true rfl) w_540 dX3_init_83 (fun H locs hcd hS => ?_)
  have hcd : cd θ ws h0 3 [.int 1, .int 0, .ref q12, .ref q19, .ref q26, .ref q33, .ref q40, .int 0, .int 0, .int 0, .ref q48, .ref q56, .ref q64, .ref q72, .int 0, .ref q81, .null, .null, .int 0, .null] (((((((((([] ++ [nwI θ q12 12]) ++ [nwI θ q19 3]) ++ [nwI θ q26 4]) ++ [nwI θ q33 3]) ++ [nwI θ q40 3]) ++ [nwI θ q48 45]) ++ [nwI θ q56 9]) ++ [nwI θ q64 9]) ++ [nwJ θ q72 30]) ++ [nwJ θ q81 650]) H := hcd
  refine lv_aload_n C.1 C.2.1 dX3_init_86 rfl (lv_at hl 0 rfl) ?_
  refine lv_sipush (v := 130) C.1 C.2.1 dX3_init_87 (by decide) ?_
  refine n_newJ C w_arrJ hcd hS hz 130 (by decide) (by decide) (Nat.le_of_ble_eq_true rfl) (Nat.le_of_ble_eq_true rfl) (Nat.le_of_ble_eq_true rfl) dX3_init_90 (fun q90 H hcd hS => ?_)
  refine W.widen (k := 11) (n := 898) (Nat.le_of_ble_eq_true rfl) (Nat.le_of_ble_eq_true rfl) ?_
  refine n_put (v := .ref q90) (ty := (.array .long)) C hcd hS (T := TX3) (N := 20) 16 gin3 tyX3 tyX3_ok nmX3 rfl (by decide) (Or.inr ⟨rfl, hi, rfl⟩) (by decide +kernel) rfl rfl (Nat.le_of_ble_eq_true rfl) w_541 dX3_init_92 (fun H locs hcd hS => ?_)
  have hcd : cd θ ws h0 3 [.int 1, .int 0, .ref q12, .ref q19, .ref q26, .ref q33, .ref q40, .int 0, .int 0, .int 0, .ref q48, .ref q56, .ref q64, .ref q72, .int 0, .ref q81, .ref q90, .null, .int 0, .null] ((((((((((([] ++ [nwI θ q12 12]) ++ [nwI θ q19 3]) ++ [nwI θ q26 4]) ++ [nwI θ q33 3]) ++ [nwI θ q40 3]) ++ [nwI θ q48 45]) ++ [nwI θ q56 9]) ++ [nwI θ q64 9]) ++ [nwJ θ q72 30]) ++ [nwJ θ q81 650]) ++ [nwJ θ q90 130]) H := hcd
  refine lv_aload_n C.1 C.2.1 dX3_init_95 rfl (lv_at hl 0 rfl) ?_
  refine lv_sipush (v := 130) C.1 C.2.1 dX3_init_96 (by decide) ?_
  refine n_newJ C w_arrJ hcd hS hz 130 (by decide) (by decide) (Nat.le_of_ble_eq_true rfl) (Nat.le_of_ble_eq_true rfl) (Nat.le_of_ble_eq_true rfl) dX3_init_99 (fun q99 H hcd hS => ?_)
  refine W.widen (k := 12) (n := 1028) (Nat.le_of_ble_eq_true rfl) (Nat.le_of_ble_eq_true rfl) ?_
  refine n_put (v := .ref q99) (ty := (.array .long)) C hcd hS (T := TX3) (N := 20) 17 gin3 tyX3 tyX3_ok nmX3 rfl (by decide) (Or.inr ⟨rfl, hi, rfl⟩) (by decide +kernel) rfl rfl (Nat.le_of_ble_eq_true rfl) w_542 dX3_init_101 (fun H locs hcd hS => ?_)
  have hcd : cd θ ws h0 3 [.int 1, .int 0, .ref q12, .ref q19, .ref q26, .ref q33, .ref q40, .int 0, .int 0, .int 0, .ref q48, .ref q56, .ref q64, .ref q72, .int 0, .ref q81, .ref q90, .ref q99, .int 0, .null] (((((((((((([] ++ [nwI θ q12 12]) ++ [nwI θ q19 3]) ++ [nwI θ q26 4]) ++ [nwI θ q33 3]) ++ [nwI θ q40 3]) ++ [nwI θ q48 45]) ++ [nwI θ q56 9]) ++ [nwI θ q64 9]) ++ [nwJ θ q72 30]) ++ [nwJ θ q81 650]) ++ [nwJ θ q90 130]) ++ [nwJ θ q99 130]) H := hcd
  refine lv_aload_n C.1 C.2.1 dX3_init_104 rfl (lv_at hl 0 rfl) ?_
  refine lv_sipush (v := 130) C.1 C.2.1 dX3_init_105 (by decide) ?_
  refine n_newI C w_arrI hcd hS hz 130 (by decide) (by decide) (Nat.le_of_ble_eq_true rfl) (Nat.le_of_ble_eq_true rfl) (Nat.le_of_ble_eq_true rfl) dX3_init_108 (fun q108 H hcd hS => ?_)
  refine W.widen (k := 13) (n := 1158) (Nat.le_of_ble_eq_true rfl) (Nat.le_of_ble_eq_true rfl) ?_
  refine n_put (v := .ref q108) (ty := (.array .int)) C hcd hS (T := TX3) (N := 20) 19 gin3 tyX3 tyX3_ok nmX3 rfl (by decide) (Or.inr ⟨rfl, hi, rfl⟩) (by decide +kernel) rfl rfl (Nat.le_of_ble_eq_true rfl) w_544 dX3_init_110 (fun H locs hcd hS => ?_)
  have hcd : cd θ ws h0 3 [.int 1, .int 0, .ref q12, .ref q19, .ref q26, .ref q33, .ref q40, .int 0, .int 0, .int 0, .ref q48, .ref q56, .ref q64, .ref q72, .int 0, .ref q81, .ref q90, .ref q99, .int 0, .ref q108] ((((((((((((([] ++ [nwI θ q12 12]) ++ [nwI θ q19 3]) ++ [nwI θ q26 4]) ++ [nwI θ q33 3]) ++ [nwI θ q40 3]) ++ [nwI θ q48 45]) ++ [nwI θ q56 9]) ++ [nwI θ q64 9]) ++ [nwJ θ q72 30]) ++ [nwJ θ q81 650]) ++ [nwJ θ q90 130]) ++ [nwJ θ q99 130]) ++ [nwI θ q108 130]) H := hcd
  exact W.vret C.1 C.2.1 C.2.2.2.2.2.2.1 (fun t ht hW => ⟨⟨(), rfl, trivial, q12, q19, q26, q33, q40, q48, q56, q64, q72, q81, q90, q99, q108, va_K.moved hW.alike C.2.2.2.2.2.1, by rw [ht]; exact hcd⟩, hS.F ht⟩) hS.2.2 dX3_init_113 C.2.2.2.2.2.2.2
