abbrev rm_X0_forget : Room := { frames := 0, cells := 0, slots := 0, locals := 0 }
def J_X0_forget_0 (θ : Th) (p : Program) (l : Launch) (e : Env) (s : State) (m : MethodId) (args : Array Value) (below : List Frame) (meth : Method) (c : Code) (g : Mm → Option Mm) : Prop := ∀ (M : Mm) (M1 : Mm), g M = some M1 → ∀ (H : Heap) (locs : List Loc) (ls : Array Slot), lv_has ls 1 [(0, .ref (tad θ 2))] → wd θ M H → va_S (tA θ) s.heap H locs → W p l e rm_X0_forget s m args below meth c H locs 0 0 (MQ below (qV θ M1) args s 0 0 (tA θ)) (F0 m 0 ls [])
def b_X0_forget_0 (N : Nat) (M : Mm) : Option Mm :=
  some (wI M 3 (-1))
set_option maxRecDepth 100000 in
set_option maxHeartbeats 4000000 in
theorem t_X0_forget_0 {θ : Th} {p : Program} {l : Launch} {e : Env} {s : State} {m : MethodId} {args : Array Value} {below : List Frame} {meth : Method} {c : Code} (C : Cx θ p s m args meth c cX0_forget 1 RX0 none) (N : Nat) : J_X0_forget_0 θ p l e s m args below meth c (b_X0_forget_0 N) := by
  intro M M1 h H locs ls hl hw hS
  unfold b_X0_forget_0 at h
  refine lv_aload_n C.1 C.2.1 dX0_forget_0 rfl (lv_at hl 0 rfl) ?_
  refine lv_iconst (v := (-1)) C.1 C.2.1 dX0_forget_1 (by decide) ?_
  refine pf_X0_collected C hw hS w_112 dX0_forget_2 (fun H locs hw hS => ?_)
  cases h
  exact k_retv C hw hS dX0_forget_5
def f_X0_forget (N : Nat) (M : Mm) : Option Mm := b_X0_forget_0 N M
set_option maxRecDepth 100000 in
theorem c_X0_forget (θ : Th) (l : Launch) (N : Nat) {M : Mm} {M1 : Mm} (h : f_X0_forget N M = some M1) : Met l yX0_forget (gws yX0_forget cX0_forget 1 none) rm_X0_forget (va_Pc [.ref (tad θ 2)] (wU θ M)) (qV θ M1) 0 0 (tA θ) :=
  k_met (by decide +kernel) (Nat.le_of_ble_eq_true rfl) (fun p e s m args below meth c C ls hl hw => t_X0_forget_0 C N _ _ h _ _ ls (lv_sub hl [0] rfl) hw va_S.rf)
abbrev rm_X0_cofactor : Room := { frames := 0, cells := 0, slots := 0, locals := 0 }
def J_X0_cofactor_31 (θ : Th) (p : Program) (l : Launch) (e : Env) (s : State) (m : MethodId) (args : Array Value) (below : List Frame) (meth : Method) (c : Code) (g : Int32 → Int32 → Int32 → Int32 → Mm → Option (Int64 × Mm)) : Prop := ∀ (x1 : Int32) (x2 : Int32) (x3 : Int32) (s0 : Int32) (M : Mm) (r : Int64) (M1 : Mm), g x1 x2 x3 s0 M = some (r, M1) → ∀ (H : Heap) (locs : List Loc) (ls : Array Slot), lv_has ls 10 [(0, .ref (tad θ 2)), (1, .int x1), (2, .int x2), (3, .int x3)] → wd θ M H → va_S (tA θ) s.heap H locs → W p l e rm_X0_cofactor s m args below meth c H locs 0 0 (MQ below (qL θ r M1) args s 0 0 (tA θ)) (F0 m 31 ls [.int s0])
def J_X0_cofactor_20 (θ : Th) (p : Program) (l : Launch) (e : Env) (s : State) (m : MethodId) (args : Array Value) (below : List Frame) (meth : Method) (c : Code) (g : Int32 → Int32 → Int32 → Mm → Option (Int64 × Mm)) : Prop := ∀ (x1 : Int32) (x2 : Int32) (s0 : Int32) (M : Mm) (r : Int64) (M1 : Mm), g x1 x2 s0 M = some (r, M1) → ∀ (H : Heap) (locs : List Loc) (ls : Array Slot), lv_has ls 10 [(0, .ref (tad θ 2)), (1, .int x1), (2, .int x2)] → wd θ M H → va_S (tA θ) s.heap H locs → W p l e rm_X0_cofactor s m args below meth c H locs 0 0 (MQ below (qL θ r M1) args s 0 0 (tA θ)) (F0 m 20 ls [.int s0])
def J_X0_cofactor_9 (θ : Th) (p : Program) (l : Launch) (e : Env) (s : State) (m : MethodId) (args : Array Value) (below : List Frame) (meth : Method) (c : Code) (g : Int32 → Int32 → Mm → Option (Int64 × Mm)) : Prop := ∀ (x1 : Int32) (s0 : Int32) (M : Mm) (r : Int64) (M1 : Mm), g x1 s0 M = some (r, M1) → ∀ (H : Heap) (locs : List Loc) (ls : Array Slot), lv_has ls 10 [(0, .ref (tad θ 2)), (1, .int x1)] → wd θ M H → va_S (tA θ) s.heap H locs → W p l e rm_X0_cofactor s m args below meth c H locs 0 0 (MQ below (qL θ r M1) args s 0 0 (tA θ)) (F0 m 9 ls [.int s0])
def J_X0_cofactor_0 (θ : Th) (p : Program) (l : Launch) (e : Env) (s : State) (m : MethodId) (args : Array Value) (below : List Frame) (meth : Method) (c : Code) (g : Int32 → Mm → Option (Int64 × Mm)) : Prop := ∀ (x1 : Int32) (M : Mm) (r : Int64) (M1 : Mm), g x1 M = some (r, M1) → ∀ (H : Heap) (locs : List Loc) (ls : Array Slot), lv_has ls 10 [(0, .ref (tad θ 2)), (1, .int x1)] → wd θ M H → va_S (tA θ) s.heap H locs → W p l e rm_X0_cofactor s m args below meth c H locs 0 0 (MQ below (qL θ r M1) args s 0 0 (tA θ)) (F0 m 0 ls [])
def b_X0_cofactor_31 (N : Nat) (x1 : Int32) (x2 : Int32) (x3 : Int32) (s0 : Int32) (M : Mm) : Option (Int64 × Mm) :=
  (rO 1 0).bind fun v38 => (rO 1 1).bind fun v46 => (rO 1 2).bind fun v54 => (rL M v38 x2).bind fun v60 => (rL M v46 x3).bind fun v64 => (rL M v54 s0).bind fun v69 => (rL M v46 s0).bind fun v75 => (rL M v54 x3).bind fun v79 => (rL M v38 x3).bind fun v86 => (rL M v46 x2).bind fun v90 => (rL M v54 s0).bind fun v95 => (rL M v46 s0).bind fun v101 => (rL M v54 x2).bind fun v105 => (rL M v38 s0).bind fun v114 => (rL M v46 x2).bind fun v118 => (rL M v54 x3).bind fun v122 => (rL M v46 x3).bind fun v127 => (rL M v54 x2).bind fun v131 => (if (2 : Int32) = 0 then none else (if (x1 - x1 / 2 * 2) = 0 then some ((((v60 * ((v64 * v69) - (v75 * v79))) - (v86 * ((v90 * v95) - (v101 * v105)))) + (v114 * ((v118 * v122) - (v127 * v131)))), M) else some ((-(((v60 * ((v64 * v69) - (v75 * v79))) - (v86 * ((v90 * v95) - (v101 * v105)))) + (v114 * ((v118 * v122) - (v127 * v131))))), M)))
set_option maxRecDepth 100000 in
set_option maxHeartbeats 4000000 in
theorem t_X0_cofactor_31 {θ : Th} {p : Program} {l : Launch} {e : Env} {s : State} {m : MethodId} {args : Array Value} {below : List Frame} {meth : Method} {c : Code} (C : Cx θ p s m args meth c cX0_cofactor 10 RX0 (some .long)) (N : Nat) : J_X0_cofactor_31 θ p l e s m args below meth c (b_X0_cofactor_31 N) := by
  intro x1 x2 x3 s0 M r M1 h H locs ls hl hw hS
  unfold b_X0_cofactor_31 at h
  refine lv_istore (lv' := [(4, .int s0), (0, .ref (tad θ 2)), (1, .int x1), (2, .int x2), (3, .int x3)]) C.1 C.2.1 dX0_cofactor_31 hl (by decide) rfl (fun ls hl => ?_)
  refine lv_aload_n C.1 C.2.1 dX0_cofactor_33 rfl (lv_at hl 1 rfl) ?_
  refine gf_X0_grid C hw w_113 dX0_cofactor_34 ?_
  refine lv_iconst (v := 0) C.1 C.2.1 dX0_cofactor_37 (by decide) ?_
  obtain ⟨v38, h38, h⟩ := bind_s h
  refine k_aald C hw 1 (by decide) h38 dX0_cofactor_38 ?_
  refine lv_astore (lv' := [(5, .ref (tad θ (22 + v38))), (4, .int s0), (0, .ref (tad θ 2)), (1, .int x1), (2, .int x2), (3, .int x3)]) C.1 C.2.1 dX0_cofactor_39 hl (by decide) rfl (fun ls hl => ?_)
  refine lv_aload_n C.1 C.2.1 dX0_cofactor_41 rfl (lv_at hl 2 rfl) ?_
  refine gf_X0_grid C hw w_113 dX0_cofactor_42 ?_
  refine lv_iconst (v := 1) C.1 C.2.1 dX0_cofactor_45 (by decide) ?_
  obtain ⟨v46, h46, h⟩ := bind_s h
  refine k_aald C hw 1 (by decide) h46 dX0_cofactor_46 ?_
  refine lv_astore (lv' := [(6, .ref (tad θ (22 + v46))), (5, .ref (tad θ (22 + v38))), (4, .int s0), (0, .ref (tad θ 2)), (1, .int x1), (2, .int x2), (3, .int x3)]) C.1 C.2.1 dX0_cofactor_47 hl (by decide) rfl (fun ls hl => ?_)
  refine lv_aload_n C.1 C.2.1 dX0_cofactor_49 rfl (lv_at hl 3 rfl) ?_
  refine gf_X0_grid C hw w_113 dX0_cofactor_50 ?_
  refine lv_iconst (v := 2) C.1 C.2.1 dX0_cofactor_53 (by decide) ?_
  obtain ⟨v54, h54, h⟩ := bind_s h
  refine k_aald C hw 1 (by decide) h54 dX0_cofactor_54 ?_
  refine lv_astore (lv' := [(7, .ref (tad θ (22 + v54))), (6, .ref (tad θ (22 + v46))), (5, .ref (tad θ (22 + v38))), (4, .int s0), (0, .ref (tad θ 2)), (1, .int x1), (2, .int x2), (3, .int x3)]) C.1 C.2.1 dX0_cofactor_55 hl (by decide) rfl (fun ls hl => ?_)
  refine lv_aload C.1 C.2.1 dX0_cofactor_57 (lv_at hl 2 rfl) ?_
  refine lv_iload_n C.1 C.2.1 dX0_cofactor_59 rfl (lv_at hl 6 rfl) ?_
  obtain ⟨v60, h60, h⟩ := bind_s h
  refine k_lald C hw v38 h60 dX0_cofactor_60 ?_
  refine lv_aload C.1 C.2.1 dX0_cofactor_61 (lv_at hl 1 rfl) ?_
  refine lv_iload_n C.1 C.2.1 dX0_cofactor_63 rfl (lv_at hl 7 rfl) ?_
  obtain ⟨v64, h64, h⟩ := bind_s h
  refine k_lald C hw v46 h64 dX0_cofactor_64 ?_
  refine lv_aload C.1 C.2.1 dX0_cofactor_65 (lv_at hl 0 rfl) ?_
  refine lv_iload C.1 C.2.1 dX0_cofactor_67 (lv_at hl 3 rfl) ?_
  obtain ⟨v69, h69, h⟩ := bind_s h
  refine k_lald C hw v54 h69 dX0_cofactor_69 ?_
  refine lv_lmul C.1 C.2.1 dX0_cofactor_70 ?_
  refine lv_aload C.1 C.2.1 dX0_cofactor_71 (lv_at hl 1 rfl) ?_
  refine lv_iload C.1 C.2.1 dX0_cofactor_73 (lv_at hl 3 rfl) ?_
  obtain ⟨v75, h75, h⟩ := bind_s h
  refine k_lald C hw v46 h75 dX0_cofactor_75 ?_
  refine lv_aload C.1 C.2.1 dX0_cofactor_76 (lv_at hl 0 rfl) ?_
  refine lv_iload_n C.1 C.2.1 dX0_cofactor_78 rfl (lv_at hl 7 rfl) ?_
  obtain ⟨v79, h79, h⟩ := bind_s h
  refine k_lald C hw v54 h79 dX0_cofactor_79 ?_
  refine lv_lmul C.1 C.2.1 dX0_cofactor_80 ?_
  refine lv_lsub C.1 C.2.1 dX0_cofactor_81 ?_
  refine lv_lmul C.1 C.2.1 dX0_cofactor_82 ?_
  refine lv_aload C.1 C.2.1 dX0_cofactor_83 (lv_at hl 2 rfl) ?_
  refine lv_iload_n C.1 C.2.1 dX0_cofactor_85 rfl (lv_at hl 7 rfl) ?_
  obtain ⟨v86, h86, h⟩ := bind_s h
  refine k_lald C hw v38 h86 dX0_cofactor_86 ?_
  refine lv_aload C.1 C.2.1 dX0_cofactor_87 (lv_at hl 1 rfl) ?_
  refine lv_iload_n C.1 C.2.1 dX0_cofactor_89 rfl (lv_at hl 6 rfl) ?_
  obtain ⟨v90, h90, h⟩ := bind_s h
  refine k_lald C hw v46 h90 dX0_cofactor_90 ?_
  refine lv_aload C.1 C.2.1 dX0_cofactor_91 (lv_at hl 0 rfl) ?_
  refine lv_iload C.1 C.2.1 dX0_cofactor_93 (lv_at hl 3 rfl) ?_
  obtain ⟨v95, h95, h⟩ := bind_s h
  refine k_lald C hw v54 h95 dX0_cofactor_95 ?_
  refine lv_lmul C.1 C.2.1 dX0_cofactor_96 ?_
  refine lv_aload C.1 C.2.1 dX0_cofactor_97 (lv_at hl 1 rfl) ?_
  refine lv_iload C.1 C.2.1 dX0_cofactor_99 (lv_at hl 3 rfl) ?_
  obtain ⟨v101, h101, h⟩ := bind_s h
  refine k_lald C hw v46 h101 dX0_cofactor_101 ?_
  refine lv_aload C.1 C.2.1 dX0_cofactor_102 (lv_at hl 0 rfl) ?_
  refine lv_iload_n C.1 C.2.1 dX0_cofactor_104 rfl (lv_at hl 6 rfl) ?_
  obtain ⟨v105, h105, h⟩ := bind_s h
  refine k_lald C hw v54 h105 dX0_cofactor_105 ?_
  refine lv_lmul C.1 C.2.1 dX0_cofactor_106 ?_
  refine lv_lsub C.1 C.2.1 dX0_cofactor_107 ?_
  refine lv_lmul C.1 C.2.1 dX0_cofactor_108 ?_
  refine lv_lsub C.1 C.2.1 dX0_cofactor_109 ?_
  refine lv_aload C.1 C.2.1 dX0_cofactor_110 (lv_at hl 2 rfl) ?_
  refine lv_iload C.1 C.2.1 dX0_cofactor_112 (lv_at hl 3 rfl) ?_
  obtain ⟨v114, h114, h⟩ := bind_s h
  refine k_lald C hw v38 h114 dX0_cofactor_114 ?_
  refine lv_aload C.1 C.2.1 dX0_cofactor_115 (lv_at hl 1 rfl) ?_
  refine lv_iload_n C.1 C.2.1 dX0_cofactor_117 rfl (lv_at hl 6 rfl) ?_
  obtain ⟨v118, h118, h⟩ := bind_s h
  refine k_lald C hw v46 h118 dX0_cofactor_118 ?_
  refine lv_aload C.1 C.2.1 dX0_cofactor_119 (lv_at hl 0 rfl) ?_
  refine lv_iload_n C.1 C.2.1 dX0_cofactor_121 rfl (lv_at hl 7 rfl) ?_
  obtain ⟨v122, h122, h⟩ := bind_s h
  refine k_lald C hw v54 h122 dX0_cofactor_122 ?_
  refine lv_lmul C.1 C.2.1 dX0_cofactor_123 ?_
  refine lv_aload C.1 C.2.1 dX0_cofactor_124 (lv_at hl 1 rfl) ?_
  refine lv_iload_n C.1 C.2.1 dX0_cofactor_126 rfl (lv_at hl 7 rfl) ?_
  obtain ⟨v127, h127, h⟩ := bind_s h
  refine k_lald C hw v46 h127 dX0_cofactor_127 ?_
  refine lv_aload C.1 C.2.1 dX0_cofactor_128 (lv_at hl 0 rfl) ?_
  refine lv_iload_n C.1 C.2.1 dX0_cofactor_130 rfl (lv_at hl 6 rfl) ?_
  obtain ⟨v131, h131, h⟩ := bind_s h
  refine k_lald C hw v54 h131 dX0_cofactor_131 ?_
  refine lv_lmul C.1 C.2.1 dX0_cofactor_132 ?_
  refine lv_lsub C.1 C.2.1 dX0_cofactor_133 ?_
  refine lv_lmul C.1 C.2.1 dX0_cofactor_134 ?_
  refine lv_ladd C.1 C.2.1 dX0_cofactor_135 ?_
  refine lv_lstore (lv' := [(8, .long (((v60 * ((v64 * v69) - (v75 * v79))) - (v86 * ((v90 * v95) - (v101 * v105)))) + (v114 * ((v118 * v122) - (v127 * v131))))), (7, .ref (tad θ (22 + v54))), (6, .ref (tad θ (22 + v46))), (5, .ref (tad θ (22 + v38))), (4, .int s0), (0, .ref (tad θ 2)), (1, .int x1), (2, .int x2), (3, .int x3)]) C.1 C.2.1 dX0_cofactor_136 hl (by decide) rfl (fun ls hl => ?_)
  refine lv_iload_n C.1 C.2.1 dX0_cofactor_138 rfl (lv_at hl 6 rfl) ?_
  refine lv_iconst (v := 2) C.1 C.2.1 dX0_cofactor_139 (by decide) ?_
  obtain ⟨hn140, h⟩ := it_n h
  refine lv_irem C.1 C.2.1 dX0_cofactor_140 hn140 ?_
  refine lv_if_ne (tgt := 149) C.1 C.2.1 dX0_cofactor_141 (by decide) (fun c141 => ?_) (fun c141 => ?_)
  · have h := it_f c141 h
    refine lv_lload C.1 C.2.1 dX0_cofactor_149 (lv_at hl 0 rfl) ?_
    refine lv_lneg C.1 C.2.1 dX0_cofactor_151 ?_
    cases h
    exact k_retl C hw hS dX0_cofactor_152
  · have h := it_t c141 h
    refine lv_lload C.1 C.2.1 dX0_cofactor_144 (lv_at hl 0 rfl) ?_
    refine lv_goto (tgt := 152) C.1 C.2.1 dX0_cofactor_146 (by decide) ?_
    cases h
    exact k_retl C hw hS dX0_cofactor_152
def b_X0_cofactor_20 (N : Nat) (x1 : Int32) (x2 : Int32) (s0 : Int32) (M : Mm) : Option (Int64 × Mm) :=
  (if x1 ≤ 2 then b_X0_cofactor_31 N x1 x2 s0 3 M else b_X0_cofactor_31 N x1 x2 s0 2 M)
set_option maxRecDepth 100000 in
set_option maxHeartbeats 4000000 in
theorem t_X0_cofactor_20 {θ : Th} {p : Program} {l : Launch} {e : Env} {s : State} {m : MethodId} {args : Array Value} {below : List Frame} {meth : Method} {c : Code} (C : Cx θ p s m args meth c cX0_cofactor 10 RX0 (some .long)) (N : Nat) : J_X0_cofactor_20 θ p l e s m args below meth c (b_X0_cofactor_20 N) := by
  intro x1 x2 s0 M r M1 h H locs ls hl hw hS
  unfold b_X0_cofactor_20 at h
  refine lv_istore_n (lv' := [(3, .int s0), (0, .ref (tad θ 2)), (1, .int x1), (2, .int x2)]) C.1 C.2.1 dX0_cofactor_20 rfl hl (by decide) rfl (fun ls hl => ?_)
  refine lv_iload_n C.1 C.2.1 dX0_cofactor_21 rfl (lv_at hl 2 rfl) ?_
  refine lv_iconst (v := 2) C.1 C.2.1 dX0_cofactor_22 (by decide) ?_
  refine lv_icmp_le (tgt := 30) C.1 C.2.1 dX0_cofactor_23 (by decide) (fun c23 => ?_) (fun c23 => ?_)
  · have h := it_t c23 h
    refine lv_iconst (v := 3) C.1 C.2.1 dX0_cofactor_30 (by decide) ?_
    exact t_X0_cofactor_31 C N _ _ _ _ _ _ _ h _ _ ls (lv_sub hl [1, 2, 3, 0] rfl) hw hS
  · have h := it_f c23 h
    refine lv_iconst (v := 2) C.1 C.2.1 dX0_cofactor_26 (by decide) ?_
    refine lv_goto (tgt := 31) C.1 C.2.1 dX0_cofactor_27 (by decide) ?_
    exact t_X0_cofactor_31 C N _ _ _ _ _ _ _ h _ _ ls (lv_sub hl [1, 2, 3, 0] rfl) hw hS
def b_X0_cofactor_9 (N : Nat) (x1 : Int32) (s0 : Int32) (M : Mm) : Option (Int64 × Mm) :=
  (if x1 ≤ 1 then b_X0_cofactor_20 N x1 s0 2 M else b_X0_cofactor_20 N x1 s0 1 M)
set_option maxRecDepth 100000 in
set_option maxHeartbeats 4000000 in
theorem t_X0_cofactor_9 {θ : Th} {p : Program} {l : Launch} {e : Env} {s : State} {m : MethodId} {args : Array Value} {below : List Frame} {meth : Method} {c : Code} (C : Cx θ p s m args meth c cX0_cofactor 10 RX0 (some .long)) (N : Nat) : J_X0_cofactor_9 θ p l e s m args below meth c (b_X0_cofactor_9 N) := by
  intro x1 s0 M r M1 h H locs ls hl hw hS
  unfold b_X0_cofactor_9 at h
  refine lv_istore_n (lv' := [(2, .int s0), (0, .ref (tad θ 2)), (1, .int x1)]) C.1 C.2.1 dX0_cofactor_9 rfl hl (by decide) rfl (fun ls hl => ?_)
  refine lv_iload_n C.1 C.2.1 dX0_cofactor_10 rfl (lv_at hl 2 rfl) ?_
  refine lv_iconst (v := 1) C.1 C.2.1 dX0_cofactor_11 (by decide) ?_
  refine lv_icmp_le (tgt := 19) C.1 C.2.1 dX0_cofactor_12 (by decide) (fun c12 => ?_) (fun c12 => ?_)
  · have h := it_t c12 h
    refine lv_iconst (v := 2) C.1 C.2.1 dX0_cofactor_19 (by decide) ?_
    exact t_X0_cofactor_20 C N _ _ _ _ _ _ h _ _ ls (lv_sub hl [1, 2, 0] rfl) hw hS
  · have h := it_f c12 h
    refine lv_iconst (v := 1) C.1 C.2.1 dX0_cofactor_15 (by decide) ?_
    refine lv_goto (tgt := 20) C.1 C.2.1 dX0_cofactor_16 (by decide) ?_
    exact t_X0_cofactor_20 C N _ _ _ _ _ _ h _ _ ls (lv_sub hl [1, 2, 0] rfl) hw hS
def b_X0_cofactor_0 (N : Nat) (x1 : Int32) (M : Mm) : Option (Int64 × Mm) :=
  (if x1 ≤ 0 then b_X0_cofactor_9 N x1 1 M else b_X0_cofactor_9 N x1 0 M)
set_option maxRecDepth 100000 in
set_option maxHeartbeats 4000000 in
theorem t_X0_cofactor_0 {θ : Th} {p : Program} {l : Launch} {e : Env} {s : State} {m : MethodId} {args : Array Value} {below : List Frame} {meth : Method} {c : Code} (C : Cx θ p s m args meth c cX0_cofactor 10 RX0 (some .long)) (N : Nat) : J_X0_cofactor_0 θ p l e s m args below meth c (b_X0_cofactor_0 N) := by
  intro x1 M r M1 h H locs ls hl hw hS
  unfold b_X0_cofactor_0 at h
  refine lv_iload_n C.1 C.2.1 dX0_cofactor_0 rfl (lv_at hl 1 rfl) ?_
  refine lv_if_le (tgt := 8) C.1 C.2.1 dX0_cofactor_1 (by decide) (fun c1 => ?_) (fun c1 => ?_)
  · have h := it_t c1 h
    refine lv_iconst (v := 1) C.1 C.2.1 dX0_cofactor_8 (by decide) ?_
    exact t_X0_cofactor_9 C N _ _ _ _ _ h _ _ ls (lv_sub hl [0, 1] rfl) hw hS
  · have h := it_f c1 h
    refine lv_iconst (v := 0) C.1 C.2.1 dX0_cofactor_4 (by decide) ?_
    refine lv_goto (tgt := 9) C.1 C.2.1 dX0_cofactor_5 (by decide) ?_
    exact t_X0_cofactor_9 C N _ _ _ _ _ h _ _ ls (lv_sub hl [0, 1] rfl) hw hS
def f_X0_cofactor (N : Nat) (x1 : Int32) (M : Mm) : Option (Int64 × Mm) := b_X0_cofactor_0 N x1 M
set_option maxRecDepth 100000 in
theorem c_X0_cofactor (θ : Th) (l : Launch) (N : Nat) {x1 : Int32} {M : Mm} {r : Int64} {M1 : Mm} (h : f_X0_cofactor N x1 M = some (r, M1)) : Met l yX0_cofactor (gws yX0_cofactor cX0_cofactor 10 (some .long)) rm_X0_cofactor (va_Pc [.ref (tad θ 2), .int x1] (wU θ M)) (qL θ r M1) 0 0 (tA θ) :=
  k_met (by decide +kernel) (Nat.le_of_ble_eq_true rfl) (fun p e s m args below meth c C ls hl hw => t_X0_cofactor_0 C N _ _ _ _ h _ _ ls (lv_sub hl [0, 1] rfl) hw va_S.rf)
abbrev rm_X0_placeColumns : Room := { frames := 0, cells := 0, slots := 0, locals := 0 }
def J_X0_placeColumns_4 (θ : Th) (p : Program) (l : Launch) (e : Env) (s : State) (m : MethodId) (args : Array Value) (below : List Frame) (meth : Method) (c : Code) (g : Int32 → Int32 → Int32 → Mm → Option (Int32 × Mm)) : Prop := ∀ (x1 : Int32) (x2 : Int32) (x3 : Int32) (M : Mm) (r : Int32) (M1 : Mm), g x1 x2 x3 M = some (r, M1) → ∀ (H : Heap) (locs : List Loc) (ls : Array Slot), lv_has ls 4 [(0, .ref (tad θ 2)), (1, .int x1), (2, .int x2), (3, .int x3)] → wd θ M H → va_S (tA θ) s.heap H locs → W p l e rm_X0_placeColumns s m args below meth c H locs 0 0 (MQ below (qI θ r M1) args s 0 0 (tA θ)) (F0 m 4 ls [])
def J_X0_placeColumns_0 (θ : Th) (p : Program) (l : Launch) (e : Env) (s : State) (m : MethodId) (args : Array Value) (below : List Frame) (meth : Method) (c : Code) (g : Int32 → Mm → Option (Int32 × Mm)) : Prop := ∀ (x1 : Int32) (M : Mm) (r : Int32) (M1 : Mm), g x1 M = some (r, M1) → ∀ (H : Heap) (locs : List Loc) (ls : Array Slot), lv_has ls 4 [(0, .ref (tad θ 2)), (1, .int x1)] → wd θ M H → va_S (tA θ) s.heap H locs → W p l e rm_X0_placeColumns s m args below meth c H locs 0 0 (MQ below (qI θ r M1) args s 0 0 (tA θ)) (F0 m 0 ls [])
def F_X0_placeColumns_4 (N : Nat) (k4 : Int32 → Int32 → Int32 → Mm → Option (Int32 × Mm)) (x1 : Int32) (x2 : Int32) (x3 : Int32) (M : Mm) : Option (Int32 × Mm) :=
  (if 6 ≤ x3 then some (x2, M) else (if ((x1 >>> (x3 &&& 31)) &&& 1) = 1 then (if 4 ≤ x2 then k4 x1 x2 (x3 + 1) M else (wA M 4 x2 x3).bind fun M30 => k4 x1 (x2 + 1) (x3 + 1) M30) else k4 x1 x2 (x3 + 1) M))
abbrev b_X0_placeColumns_4 (N : Nat) : Int32 → Int32 → Int32 → Mm → Option (Int32 × Mm) := lpT (fun _ _ _ _ => none) (F_X0_placeColumns_4 N) N
set_option maxRecDepth 100000 in
set_option maxHeartbeats 4000000 in
theorem tF_X0_placeColumns_4 {θ : Th} {p : Program} {l : Launch} {e : Env} {s : State} {m : MethodId} {args : Array Value} {below : List Frame} {meth : Method} {c : Code} (C : Cx θ p s m args meth c cX0_placeColumns 4 RX0 (some .int)) (N : Nat) {k4 : Int32 → Int32 → Int32 → Mm → Option (Int32 × Mm)} (hk4 : J_X0_placeColumns_4 θ p l e s m args below meth c k4) : J_X0_placeColumns_4 θ p l e s m args below meth c (F_X0_placeColumns_4 N k4) := by
  intro x1 x2 x3 M r M1 h H locs ls hl hw hS
  unfold F_X0_placeColumns_4 at h
  refine lv_iload_n C.1 C.2.1 dX0_placeColumns_4 rfl (lv_at hl 3 rfl) ?_
  refine lv_bipush (v := 6) C.1 C.2.1 dX0_placeColumns_5 (by decide) ?_
  refine lv_icmp_ge (tgt := 40) C.1 C.2.1 dX0_placeColumns_7 (by decide) (fun c7 => ?_) (fun c7 => ?_)
  · have h := it_t c7 h
    refine lv_iload_n C.1 C.2.1 dX0_placeColumns_40 rfl (lv_at hl 2 rfl) ?_
    cases h
    exact k_reti C hw hS dX0_placeColumns_41
  · have h := it_f c7 h
    refine lv_iload_n C.1 C.2.1 dX0_placeColumns_10 rfl (lv_at hl 1 rfl) ?_
    refine lv_iload_n C.1 C.2.1 dX0_placeColumns_11 rfl (lv_at hl 3 rfl) ?_
    refine lv_ishr C.1 C.2.1 dX0_placeColumns_12 ?_
    refine lv_iconst (v := 1) C.1 C.2.1 dX0_placeColumns_13 (by decide) ?_
    refine lv_iand C.1 C.2.1 dX0_placeColumns_14 ?_
    refine lv_iconst (v := 1) C.1 C.2.1 dX0_placeColumns_15 (by decide) ?_
    refine lv_icmp_ne (tgt := 34) C.1 C.2.1 dX0_placeColumns_16 (by decide) (fun c16 => ?_) (fun c16 => ?_)
    · have h := it_f c16 h
      refine lv_iinc (v := (x3 + 1)) (lv' := [(3, .int (x3 + 1)), (0, .ref (tad θ 2)), (1, .int x1), (2, .int x2)]) C.1 C.2.1 dX0_placeColumns_34 hl (k := 3) rfl rfl (by decide) rfl (fun ls hl => ?_)
      refine lv_goto (tgt := 4) C.1 C.2.1 dX0_placeColumns_37 (by decide) ?_
      exact hk4 _ _ _ _ _ _ h _ _ ls (lv_sub hl [1, 2, 3, 0] rfl) hw hS
    · have h := it_t c16 h
      refine lv_iload_n C.1 C.2.1 dX0_placeColumns_19 rfl (lv_at hl 2 rfl) ?_
      refine lv_iconst (v := 4) C.1 C.2.1 dX0_placeColumns_20 (by decide) ?_
      refine lv_icmp_ge (tgt := 34) C.1 C.2.1 dX0_placeColumns_21 (by decide) (fun c21 => ?_) (fun c21 => ?_)
      · have h := it_t c21 h
        refine lv_iinc (v := (x3 + 1)) (lv' := [(3, .int (x3 + 1)), (0, .ref (tad θ 2)), (1, .int x1), (2, .int x2)]) C.1 C.2.1 dX0_placeColumns_34 hl (k := 3) rfl rfl (by decide) rfl (fun ls hl => ?_)
        refine lv_goto (tgt := 4) C.1 C.2.1 dX0_placeColumns_37 (by decide) ?_
        exact hk4 _ _ _ _ _ _ h _ _ ls (lv_sub hl [1, 2, 3, 0] rfl) hw hS
      · have h := it_f c21 h
        refine lv_aload_n C.1 C.2.1 dX0_placeColumns_24 rfl (lv_at hl 0 rfl) ?_
        refine gf_X0_places C hw w_114 dX0_placeColumns_25 ?_
        refine lv_iload_n C.1 C.2.1 dX0_placeColumns_28 rfl (lv_at hl 2 rfl) ?_
        refine lv_iload_n C.1 C.2.1 dX0_placeColumns_29 rfl (lv_at hl 3 rfl) ?_
        obtain ⟨M30, h30, h⟩ := bind_s h
        refine k_iast C hw hS 4 (by decide) h30 dX0_placeColumns_30 (fun H locs hw hS => ?_)
        refine lv_iinc (v := (x2 + 1)) (lv' := [(2, .int (x2 + 1)), (0, .ref (tad θ 2)), (1, .int x1), (3, .int x3)]) C.1 C.2.1 dX0_placeColumns_31 hl (k := 2) rfl rfl (by decide) rfl (fun ls hl => ?_)
        refine lv_iinc (v := (x3 + 1)) (lv' := [(3, .int (x3 + 1)), (2, .int (x2 + 1)), (0, .ref (tad θ 2)), (1, .int x1)]) C.1 C.2.1 dX0_placeColumns_34 hl (k := 3) rfl rfl (by decide) rfl (fun ls hl => ?_)
        refine lv_goto (tgt := 4) C.1 C.2.1 dX0_placeColumns_37 (by decide) ?_
        exact hk4 _ _ _ _ _ _ h _ _ ls (lv_sub hl [2, 3, 1, 0] rfl) hw hS
theorem t_X0_placeColumns_4 {θ : Th} {p : Program} {l : Launch} {e : Env} {s : State} {m : MethodId} {args : Array Value} {below : List Frame} {meth : Method} {c : Code} (C : Cx θ p s m args meth c cX0_placeColumns 4 RX0 (some .int)) (N : Nat) : J_X0_placeColumns_4 θ p l e s m args below meth c (b_X0_placeColumns_4 N) := lpT_ind (J := J_X0_placeColumns_4 θ p l e s m args below meth c) (fun _ _ _ _ _ _ h => by cases h) (fun k hk => tF_X0_placeColumns_4 C N hk) N
def b_X0_placeColumns_0 (N : Nat) (x1 : Int32) (M : Mm) : Option (Int32 × Mm) :=
  b_X0_placeColumns_4 N x1 0 0 M
set_option maxRecDepth 100000 in
set_option maxHeartbeats 4000000 in
theorem t_X0_placeColumns_0 {θ : Th} {p : Program} {l : Launch} {e : Env} {s : State} {m : MethodId} {args : Array Value} {below : List Frame} {meth : Method} {c : Code} (C : Cx θ p s m args meth c cX0_placeColumns 4 RX0 (some .int)) (N : Nat) : J_X0_placeColumns_0 θ p l e s m args below meth c (b_X0_placeColumns_0 N) := by
  intro x1 M r M1 h H locs ls hl hw hS
  unfold b_X0_placeColumns_0 at h
  refine lv_iconst (v := 0) C.1 C.2.1 dX0_placeColumns_0 (by decide) ?_
  refine lv_istore_n (lv' := [(2, .int 0), (0, .ref (tad θ 2)), (1, .int x1)]) C.1 C.2.1 dX0_placeColumns_1 rfl hl (by decide) rfl (fun ls hl => ?_)
  refine lv_iconst (v := 0) C.1 C.2.1 dX0_placeColumns_2 (by decide) ?_
  refine lv_istore_n (lv' := [(3, .int 0), (2, .int 0), (0, .ref (tad θ 2)), (1, .int x1)]) C.1 C.2.1 dX0_placeColumns_3 rfl hl (by decide) rfl (fun ls hl => ?_)
  exact t_X0_placeColumns_4 C N _ _ _ _ _ _ h _ _ ls (lv_sub hl [2, 3, 1, 0] rfl) hw hS
def f_X0_placeColumns (N : Nat) (x1 : Int32) (M : Mm) : Option (Int32 × Mm) := b_X0_placeColumns_0 N x1 M
set_option maxRecDepth 100000 in
theorem c_X0_placeColumns (θ : Th) (l : Launch) (N : Nat) {x1 : Int32} {M : Mm} {r : Int32} {M1 : Mm} (h : f_X0_placeColumns N x1 M = some (r, M1)) : Met l yX0_placeColumns (gws yX0_placeColumns cX0_placeColumns 4 (some .int)) rm_X0_placeColumns (va_Pc [.ref (tad θ 2), .int x1] (wU θ M)) (qI θ r M1) 0 0 (tA θ) :=
  k_met (by decide +kernel) (Nat.le_of_ble_eq_true rfl) (fun p e s m args below meth c C ls hl hw => t_X0_placeColumns_0 C N _ _ _ _ h _ _ ls (lv_sub hl [0, 1] rfl) hw va_S.rf)
abbrev rm_X0_fillGrid : Room := { frames := 1, cells := 0, slots := 0, locals := 22 }
def J_X0_fillGrid_28 (θ : Th) (p : Program) (l : Launch) (e : Env) (s : State) (m : MethodId) (args : Array Value) (below : List Frame) (meth : Method) (c : Code) (g : Int32 → Int32 → Int32 → Int32 → Int32 → Mm → Option Mm) : Prop := ∀ (x2 : Int32) (x3 : Int32) (x4 : Int32) (x5 : Int32) (x6 : Int32) (M : Mm) (M1 : Mm), g x2 x3 x4 x5 x6 M = some M1 → ∀ (H : Heap) (locs : List Loc) (ls : Array Slot), lv_has ls 7 [(0, .ref (tad θ 2)), (1, .ref (tad θ 1)), (2, .int x2), (3, .int x3), (4, .int x4), (5, .int x5), (6, .int x6)] → wd θ M H → va_S (tA θ) s.heap H locs → W p l e rm_X0_fillGrid s m args below meth c H locs 0 0 (MQ below (qV θ M1) args s 0 0 (tA θ)) (F0 m 28 ls [])
def J_X0_fillGrid_95 (θ : Th) (p : Program) (l : Launch) (e : Env) (s : State) (m : MethodId) (args : Array Value) (below : List Frame) (meth : Method) (c : Code) (g : Int32 → Int32 → Mm → Option Mm) : Prop := ∀ (x5 : Int32) (x6 : Int32) (M : Mm) (M1 : Mm), g x5 x6 M = some M1 → ∀ (H : Heap) (locs : List Loc) (ls : Array Slot), lv_has ls 7 [(0, .ref (tad θ 2)), (5, .int x5), (6, .int x6)] → wd θ M H → va_S (tA θ) s.heap H locs → W p l e rm_X0_fillGrid s m args below meth c H locs 0 0 (MQ below (qV θ M1) args s 0 0 (tA θ)) (F0 m 95 ls [])
def J_X0_fillGrid_86 (θ : Th) (p : Program) (l : Launch) (e : Env) (s : State) (m : MethodId) (args : Array Value) (below : List Frame) (meth : Method) (c : Code) (g : Int32 → Mm → Option Mm) : Prop := ∀ (x5 : Int32) (M : Mm) (M1 : Mm), g x5 M = some M1 → ∀ (H : Heap) (locs : List Loc) (ls : Array Slot), lv_has ls 7 [(0, .ref (tad θ 2)), (5, .int x5)] → wd θ M H → va_S (tA θ) s.heap H locs → W p l e rm_X0_fillGrid s m args below meth c H locs 0 0 (MQ below (qV θ M1) args s 0 0 (tA θ)) (F0 m 86 ls [])
def J_X0_fillGrid_6 (θ : Th) (p : Program) (l : Launch) (e : Env) (s : State) (m : MethodId) (args : Array Value) (below : List Frame) (meth : Method) (c : Code) (g : Int32 → Int32 → Int32 → Int32 → Mm → Option Mm) : Prop := ∀ (x2 : Int32) (x3 : Int32) (x4 : Int32) (x5 : Int32) (M : Mm) (M1 : Mm), g x2 x3 x4 x5 M = some M1 → ∀ (H : Heap) (locs : List Loc) (ls : Array Slot), lv_has ls 7 [(0, .ref (tad θ 2)), (1, .ref (tad θ 1)), (2, .int x2), (3, .int x3), (4, .int x4), (5, .int x5)] → wd θ M H → va_S (tA θ) s.heap H locs → W p l e rm_X0_fillGrid s m args below meth c H locs 0 0 (MQ below (qV θ M1) args s 0 0 (tA θ)) (F0 m 6 ls [])
def J_X0_fillGrid_0 (θ : Th) (p : Program) (l : Launch) (e : Env) (s : State) (m : MethodId) (args : Array Value) (below : List Frame) (meth : Method) (c : Code) (g : Int32 → Int32 → Mm → Option Mm) : Prop := ∀ (x2 : Int32) (x3 : Int32) (M : Mm) (M1 : Mm), g x2 x3 M = some M1 → ∀ (H : Heap) (locs : List Loc) (ls : Array Slot), lv_has ls 7 [(0, .ref (tad θ 2)), (1, .ref (tad θ 1)), (2, .int x2), (3, .int x3)] → wd θ M H → va_S (tA θ) s.heap H locs → W p l e rm_X0_fillGrid s m args below meth c H locs 0 0 (MQ below (qV θ M1) args s 0 0 (tA θ)) (F0 m 0 ls [])
def F_X0_fillGrid_28 (N : Nat) (k6 : Int32 → Int32 → Int32 → Int32 → Mm → Option Mm) (k28 : Int32 → Int32 → Int32 → Int32 → Int32 → Mm → Option Mm) (x2 : Int32) (x3 : Int32) (x4 : Int32) (x5 : Int32) (x6 : Int32) (M : Mm) : Option Mm :=
  (if 4 ≤ x6 then k6 x2 x3 (x4 + 1) (x5 + 1) M else (rO 1 x4).bind fun v40 => (if x3 ≤ x6 then (wL M v40 x6 0).bind fun M66 => k28 x2 x3 x4 x5 (x6 + 1) M66 else (rA M 4 x6).bind fun v58 => (f_X1_entry N x5 v58 M).bind fun (r59, M59) => (wL M59 v40 x6 r59).bind fun M66 => k28 x2 x3 x4 x5 (x6 + 1) M66))
abbrev b_X0_fillGrid_28 (N : Nat) (k6 : Int32 → Int32 → Int32 → Int32 → Mm → Option Mm) : Int32 → Int32 → Int32 → Int32 → Int32 → Mm → Option Mm := lpT (fun _ _ _ _ _ _ => none) (F_X0_fillGrid_28 N k6) N
set_option maxRecDepth 100000 in
set_option maxHeartbeats 4000000 in
theorem tF_X0_fillGrid_28 {θ : Th} {p : Program} {l : Launch} {e : Env} {s : State} {m : MethodId} {args : Array Value} {below : List Frame} {meth : Method} {c : Code} (C : Cx θ p s m args meth c cX0_fillGrid 7 RX0 none) (N : Nat) {k6 : Int32 → Int32 → Int32 → Int32 → Mm → Option Mm} (hk6 : J_X0_fillGrid_6 θ p l e s m args below meth c k6) {k28 : Int32 → Int32 → Int32 → Int32 → Int32 → Mm → Option Mm} (hk28 : J_X0_fillGrid_28 θ p l e s m args below meth c k28) : J_X0_fillGrid_28 θ p l e s m args below meth c (F_X0_fillGrid_28 N k6 k28) := by
  intro x2 x3 x4 x5 x6 M M1 h H locs ls hl hw hS
  unfold F_X0_fillGrid_28 at h
  refine lv_iload C.1 C.2.1 dX0_fillGrid_28 (lv_at hl 6 rfl) ?_
  refine lv_iconst (v := 4) C.1 C.2.1 dX0_fillGrid_30 (by decide) ?_
  refine lv_icmp_ge (tgt := 73) C.1 C.2.1 dX0_fillGrid_31 (by decide) (fun c31 => ?_) (fun c31 => ?_)
  · have h := it_t c31 h
    refine lv_iinc (v := (x4 + 1)) (lv' := [(4, .int (x4 + 1)), (0, .ref (tad θ 2)), (1, .ref (tad θ 1)), (2, .int x2), (3, .int x3), (5, .int x5), (6, .int x6)]) C.1 C.2.1 dX0_fillGrid_73 hl (k := 4) rfl rfl (by decide) rfl (fun ls hl => ?_)
    refine lv_iinc (v := (x5 + 1)) (lv' := [(5, .int (x5 + 1)), (4, .int (x4 + 1)), (0, .ref (tad θ 2)), (1, .ref (tad θ 1)), (2, .int x2), (3, .int x3), (6, .int x6)]) C.1 C.2.1 dX0_fillGrid_76 hl (k := 5) rfl rfl (by decide) rfl (fun ls hl => ?_)
    refine lv_goto (tgt := 6) C.1 C.2.1 dX0_fillGrid_79 (by decide) ?_
    exact hk6 _ _ _ _ _ _ h _ _ ls (lv_sub hl [2, 3, 4, 5, 1, 0] rfl) hw hS
  · have h := it_f c31 h
    refine lv_aload_n C.1 C.2.1 dX0_fillGrid_34 rfl (lv_at hl 0 rfl) ?_
    refine gf_X0_grid C hw w_113 dX0_fillGrid_35 ?_
    refine lv_iload C.1 C.2.1 dX0_fillGrid_38 (lv_at hl 4 rfl) ?_
    obtain ⟨v40, h40, h⟩ := bind_s h
    refine k_aald C hw 1 (by decide) h40 dX0_fillGrid_40 ?_
    refine lv_iload C.1 C.2.1 dX0_fillGrid_41 (lv_at hl 6 rfl) ?_
    refine lv_iload C.1 C.2.1 dX0_fillGrid_43 (lv_at hl 6 rfl) ?_
    refine lv_iload_n C.1 C.2.1 dX0_fillGrid_45 rfl (lv_at hl 3 rfl) ?_
    refine lv_icmp_ge (tgt := 65) C.1 C.2.1 dX0_fillGrid_46 (by decide) (fun c46 => ?_) (fun c46 => ?_)
    · have h := it_t c46 h
      refine lv_lconst (v := 0) C.1 C.2.1 dX0_fillGrid_65 (by decide) ?_
      obtain ⟨M66, h66, h⟩ := bind_s h
      refine k_last C hw hS v40 h66 dX0_fillGrid_66 (fun H locs hw hS => ?_)
      refine lv_iinc (v := (x6 + 1)) (lv' := [(6, .int (x6 + 1)), (0, .ref (tad θ 2)), (1, .ref (tad θ 1)), (2, .int x2), (3, .int x3), (4, .int x4), (5, .int x5)]) C.1 C.2.1 dX0_fillGrid_67 hl (k := 6) rfl rfl (by decide) rfl (fun ls hl => ?_)
      refine lv_goto (tgt := 28) C.1 C.2.1 dX0_fillGrid_70 (by decide) ?_
      exact hk28 _ _ _ _ _ _ _ h _ _ ls (lv_sub hl [1, 2, 3, 4, 5, 6, 0] rfl) hw hS
    · have h := it_f c46 h
      refine lv_aload_n C.1 C.2.1 dX0_fillGrid_49 rfl (lv_at hl 1 rfl) ?_
      refine lv_iload C.1 C.2.1 dX0_fillGrid_50 (lv_at hl 5 rfl) ?_
      refine lv_aload_n C.1 C.2.1 dX0_fillGrid_52 rfl (lv_at hl 0 rfl) ?_
      refine gf_X0_places C hw w_114 dX0_fillGrid_53 ?_
      refine lv_iload C.1 C.2.1 dX0_fillGrid_56 (lv_at hl 6 rfl) ?_
      obtain ⟨v58, h58, h⟩ := bind_s h
      refine k_iald C hw 4 (by decide) h58 dX0_fillGrid_58 ?_
      obtain ⟨⟨r59, M59⟩, h59, h⟩ := bind_s h
      dsimp only at h
      refine k_cl (k_runV (As := [.int x5, .int v58]) C cf_X1_entry cv_X1_entry w_177 rc1 (c_X1_entry θ l N h59) ⟨rfl, rfl, Nat.le_of_ble_eq_true rfl, Nat.le_of_ble_eq_true rfl⟩ rfl hl.1 rfl (Nat.le_of_ble_eq_true rfl) dX0_fillGrid_59 ⟨Nat.zero_le _, Nat.zero_le _⟩ hw) hS (fun H locs hw hS => ?_)
      refine lv_goto (tgt := 66) C.1 C.2.1 dX0_fillGrid_62 (by decide) ?_
      obtain ⟨M66, h66, h⟩ := bind_s h
      refine k_last C hw hS v40 h66 dX0_fillGrid_66 (fun H locs hw hS => ?_)
      refine lv_iinc (v := (x6 + 1)) (lv' := [(6, .int (x6 + 1)), (0, .ref (tad θ 2)), (1, .ref (tad θ 1)), (2, .int x2), (3, .int x3), (4, .int x4), (5, .int x5)]) C.1 C.2.1 dX0_fillGrid_67 hl (k := 6) rfl rfl (by decide) rfl (fun ls hl => ?_)
      refine lv_goto (tgt := 28) C.1 C.2.1 dX0_fillGrid_70 (by decide) ?_
      exact hk28 _ _ _ _ _ _ _ h _ _ ls (lv_sub hl [1, 2, 3, 4, 5, 6, 0] rfl) hw hS
theorem t_X0_fillGrid_28 {θ : Th} {p : Program} {l : Launch} {e : Env} {s : State} {m : MethodId} {args : Array Value} {below : List Frame} {meth : Method} {c : Code} (C : Cx θ p s m args meth c cX0_fillGrid 7 RX0 none) (N : Nat) {k6 : Int32 → Int32 → Int32 → Int32 → Mm → Option Mm} (hk6 : J_X0_fillGrid_6 θ p l e s m args below meth c k6) : J_X0_fillGrid_28 θ p l e s m args below meth c (b_X0_fillGrid_28 N k6) := lpT_ind (J := J_X0_fillGrid_28 θ p l e s m args below meth c) (fun _ _ _ _ _ _ _ h => by cases h) (fun k hk => tF_X0_fillGrid_28 C N hk6 hk) N
def F_X0_fillGrid_95 (N : Nat) (k86 : Int32 → Mm → Option Mm) (k95 : Int32 → Int32 → Mm → Option Mm) (x5 : Int32) (x6 : Int32) (M : Mm) : Option Mm :=
  (if 4 ≤ x6 then k86 (x5 + 1) M else (rO 1 x5).bind fun v107 => (if x6 = (x5 + 1) then (wL M v107 x6 1).bind fun M124 => k95 x5 (x6 + 1) M124 else (wL M v107 x6 0).bind fun M124 => k95 x5 (x6 + 1) M124))
abbrev b_X0_fillGrid_95 (N : Nat) (k86 : Int32 → Mm → Option Mm) : Int32 → Int32 → Mm → Option Mm := lpT (fun _ _ _ => none) (F_X0_fillGrid_95 N k86) N
set_option maxRecDepth 100000 in
set_option maxHeartbeats 4000000 in
theorem tF_X0_fillGrid_95 {θ : Th} {p : Program} {l : Launch} {e : Env} {s : State} {m : MethodId} {args : Array Value} {below : List Frame} {meth : Method} {c : Code} (C : Cx θ p s m args meth c cX0_fillGrid 7 RX0 none) (N : Nat) {k86 : Int32 → Mm → Option Mm} (hk86 : J_X0_fillGrid_86 θ p l e s m args below meth c k86) {k95 : Int32 → Int32 → Mm → Option Mm} (hk95 : J_X0_fillGrid_95 θ p l e s m args below meth c k95) : J_X0_fillGrid_95 θ p l e s m args below meth c (F_X0_fillGrid_95 N k86 k95) := by
  intro x5 x6 M M1 h H locs ls hl hw hS
  unfold F_X0_fillGrid_95 at h
  refine lv_iload C.1 C.2.1 dX0_fillGrid_95 (lv_at hl 2 rfl) ?_
  refine lv_iconst (v := 4) C.1 C.2.1 dX0_fillGrid_97 (by decide) ?_
  refine lv_icmp_ge (tgt := 131) C.1 C.2.1 dX0_fillGrid_98 (by decide) (fun c98 => ?_) (fun c98 => ?_)
  · have h := it_t c98 h
    refine lv_iinc (v := (x5 + 1)) (lv' := [(5, .int (x5 + 1)), (0, .ref (tad θ 2)), (6, .int x6)]) C.1 C.2.1 dX0_fillGrid_131 hl (k := 1) rfl rfl (by decide) rfl (fun ls hl => ?_)
    refine lv_goto (tgt := 86) C.1 C.2.1 dX0_fillGrid_134 (by decide) ?_
    exact hk86 _ _ _ h _ _ ls (lv_sub hl [1, 0] rfl) hw hS
  · have h := it_f c98 h
    refine lv_aload_n C.1 C.2.1 dX0_fillGrid_101 rfl (lv_at hl 0 rfl) ?_
    refine gf_X0_grid C hw w_113 dX0_fillGrid_102 ?_
    refine lv_iload C.1 C.2.1 dX0_fillGrid_105 (lv_at hl 1 rfl) ?_
    obtain ⟨v107, h107, h⟩ := bind_s h
    refine k_aald C hw 1 (by decide) h107 dX0_fillGrid_107 ?_
    refine lv_iload C.1 C.2.1 dX0_fillGrid_108 (lv_at hl 2 rfl) ?_
    refine lv_iload C.1 C.2.1 dX0_fillGrid_110 (lv_at hl 2 rfl) ?_
    refine lv_iload C.1 C.2.1 dX0_fillGrid_112 (lv_at hl 1 rfl) ?_
    refine lv_iconst (v := 1) C.1 C.2.1 dX0_fillGrid_114 (by decide) ?_
    refine lv_iadd C.1 C.2.1 dX0_fillGrid_115 ?_
    refine lv_icmp_ne (tgt := 123) C.1 C.2.1 dX0_fillGrid_116 (by decide) (fun c116 => ?_) (fun c116 => ?_)
    · have h := it_f c116 h
      refine lv_lconst (v := 0) C.1 C.2.1 dX0_fillGrid_123 (by decide) ?_
      obtain ⟨M124, h124, h⟩ := bind_s h
      refine k_last C hw hS v107 h124 dX0_fillGrid_124 (fun H locs hw hS => ?_)
      refine lv_iinc (v := (x6 + 1)) (lv' := [(6, .int (x6 + 1)), (0, .ref (tad θ 2)), (5, .int x5)]) C.1 C.2.1 dX0_fillGrid_125 hl (k := 2) rfl rfl (by decide) rfl (fun ls hl => ?_)
      refine lv_goto (tgt := 95) C.1 C.2.1 dX0_fillGrid_128 (by decide) ?_
      exact hk95 _ _ _ _ h _ _ ls (lv_sub hl [1, 2, 0] rfl) hw hS
    · have h := it_t c116 h
      refine lv_lconst (v := 1) C.1 C.2.1 dX0_fillGrid_119 (by decide) ?_
      refine lv_goto (tgt := 124) C.1 C.2.1 dX0_fillGrid_120 (by decide) ?_
      obtain ⟨M124, h124, h⟩ := bind_s h
      refine k_last C hw hS v107 h124 dX0_fillGrid_124 (fun H locs hw hS => ?_)
      refine lv_iinc (v := (x6 + 1)) (lv' := [(6, .int (x6 + 1)), (0, .ref (tad θ 2)), (5, .int x5)]) C.1 C.2.1 dX0_fillGrid_125 hl (k := 2) rfl rfl (by decide) rfl (fun ls hl => ?_)
      refine lv_goto (tgt := 95) C.1 C.2.1 dX0_fillGrid_128 (by decide) ?_
      exact hk95 _ _ _ _ h _ _ ls (lv_sub hl [1, 2, 0] rfl) hw hS
theorem t_X0_fillGrid_95 {θ : Th} {p : Program} {l : Launch} {e : Env} {s : State} {m : MethodId} {args : Array Value} {below : List Frame} {meth : Method} {c : Code} (C : Cx θ p s m args meth c cX0_fillGrid 7 RX0 none) (N : Nat) {k86 : Int32 → Mm → Option Mm} (hk86 : J_X0_fillGrid_86 θ p l e s m args below meth c k86) : J_X0_fillGrid_95 θ p l e s m args below meth c (b_X0_fillGrid_95 N k86) := lpT_ind (J := J_X0_fillGrid_95 θ p l e s m args below meth c) (fun _ _ _ _ h => by cases h) (fun k hk => tF_X0_fillGrid_95 C N hk86 hk) N
def F_X0_fillGrid_86 (N : Nat) (k86 : Int32 → Mm → Option Mm) (x5 : Int32) (M : Mm) : Option Mm :=
  (if 3 ≤ x5 then some M else b_X0_fillGrid_95 N k86 x5 0 M)
abbrev b_X0_fillGrid_86 (N : Nat) : Int32 → Mm → Option Mm := lpT (fun _ _ => none) (F_X0_fillGrid_86 N) N
set_option maxRecDepth 100000 in
set_option maxHeartbeats 4000000 in
theorem tF_X0_fillGrid_86 {θ : Th} {p : Program} {l : Launch} {e : Env} {s : State} {m : MethodId} {args : Array Value} {below : List Frame} {meth : Method} {c : Code} (C : Cx θ p s m args meth c cX0_fillGrid 7 RX0 none) (N : Nat) {k86 : Int32 → Mm → Option Mm} (hk86 : J_X0_fillGrid_86 θ p l e s m args below meth c k86) : J_X0_fillGrid_86 θ p l e s m args below meth c (F_X0_fillGrid_86 N k86) := by
  intro x5 M M1 h H locs ls hl hw hS
  unfold F_X0_fillGrid_86 at h
  refine lv_iload C.1 C.2.1 dX0_fillGrid_86 (lv_at hl 1 rfl) ?_
  refine lv_iconst (v := 3) C.1 C.2.1 dX0_fillGrid_88 (by decide) ?_
  refine lv_icmp_ge (tgt := 137) C.1 C.2.1 dX0_fillGrid_89 (by decide) (fun c89 => ?_) (fun c89 => ?_)
  · have h := it_t c89 h
    cases h
    exact k_retv C hw hS dX0_fillGrid_137
  · have h := it_f c89 h
    refine lv_iconst (v := 0) C.1 C.2.1 dX0_fillGrid_92 (by decide) ?_
    refine lv_istore (lv' := [(6, .int 0), (0, .ref (tad θ 2)), (5, .int x5)]) C.1 C.2.1 dX0_fillGrid_93 hl (by decide) rfl (fun ls hl => ?_)
    exact t_X0_fillGrid_95 C N hk86 _ _ _ _ h _ _ ls (lv_sub hl [1, 2, 0] rfl) hw hS
theorem t_X0_fillGrid_86 {θ : Th} {p : Program} {l : Launch} {e : Env} {s : State} {m : MethodId} {args : Array Value} {below : List Frame} {meth : Method} {c : Code} (C : Cx θ p s m args meth c cX0_fillGrid 7 RX0 none) (N : Nat) : J_X0_fillGrid_86 θ p l e s m args below meth c (b_X0_fillGrid_86 N) := lpT_ind (J := J_X0_fillGrid_86 θ p l e s m args below meth c) (fun _ _ _ h => by cases h) (fun k hk => tF_X0_fillGrid_86 C N hk) N
def F_X0_fillGrid_6 (N : Nat) (k6 : Int32 → Int32 → Int32 → Int32 → Mm → Option Mm) (x2 : Int32) (x3 : Int32) (x4 : Int32) (x5 : Int32) (M : Mm) : Option Mm :=
  (if (M.1 1) ≤ x5 then b_X0_fillGrid_86 N x4 M else (if ((x2 >>> (x5 &&& 31)) &&& 1) = 1 then b_X0_fillGrid_28 N k6 x2 x3 x4 x5 0 M else k6 x2 x3 x4 (x5 + 1) M))
abbrev b_X0_fillGrid_6 (N : Nat) : Int32 → Int32 → Int32 → Int32 → Mm → Option Mm := lpT (fun _ _ _ _ _ => none) (F_X0_fillGrid_6 N) N
set_option maxRecDepth 100000 in
set_option maxHeartbeats 4000000 in
theorem tF_X0_fillGrid_6 {θ : Th} {p : Program} {l : Launch} {e : Env} {s : State} {m : MethodId} {args : Array Value} {below : List Frame} {meth : Method} {c : Code} (C : Cx θ p s m args meth c cX0_fillGrid 7 RX0 none) (N : Nat) {k6 : Int32 → Int32 → Int32 → Int32 → Mm → Option Mm} (hk6 : J_X0_fillGrid_6 θ p l e s m args below meth c k6) : J_X0_fillGrid_6 θ p l e s m args below meth c (F_X0_fillGrid_6 N k6) := by
  intro x2 x3 x4 x5 M M1 h H locs ls hl hw hS
  unfold F_X0_fillGrid_6 at h
  refine lv_iload C.1 C.2.1 dX0_fillGrid_6 (lv_at hl 5 rfl) ?_
  refine lv_aload_n C.1 C.2.1 dX0_fillGrid_8 rfl (lv_at hl 1 rfl) ?_
  refine gf_X1_rows C hw w_77 dX0_fillGrid_9 ?_
  refine lv_icmp_ge (tgt := 82) C.1 C.2.1 dX0_fillGrid_12 (by decide) (fun c12 => ?_) (fun c12 => ?_)
  · have h := it_t c12 h
    refine lv_iload C.1 C.2.1 dX0_fillGrid_82 (lv_at hl 4 rfl) ?_
    refine lv_istore (lv' := [(5, .int x4), (0, .ref (tad θ 2)), (1, .ref (tad θ 1)), (2, .int x2), (3, .int x3), (4, .int x4)]) C.1 C.2.1 dX0_fillGrid_84 hl (by decide) rfl (fun ls hl => ?_)
    exact t_X0_fillGrid_86 C N _ _ _ h _ _ ls (lv_sub hl [1, 0] rfl) hw hS
  · have h := it_f c12 h
    refine lv_iload_n C.1 C.2.1 dX0_fillGrid_15 rfl (lv_at hl 2 rfl) ?_
    refine lv_iload C.1 C.2.1 dX0_fillGrid_16 (lv_at hl 5 rfl) ?_
    refine lv_ishr C.1 C.2.1 dX0_fillGrid_18 ?_
    refine lv_iconst (v := 1) C.1 C.2.1 dX0_fillGrid_19 (by decide) ?_
    refine lv_iand C.1 C.2.1 dX0_fillGrid_20 ?_
    refine lv_iconst (v := 1) C.1 C.2.1 dX0_fillGrid_21 (by decide) ?_
    refine lv_icmp_ne (tgt := 76) C.1 C.2.1 dX0_fillGrid_22 (by decide) (fun c22 => ?_) (fun c22 => ?_)
    · have h := it_f c22 h
      refine lv_iinc (v := (x5 + 1)) (lv' := [(5, .int (x5 + 1)), (0, .ref (tad θ 2)), (1, .ref (tad θ 1)), (2, .int x2), (3, .int x3), (4, .int x4)]) C.1 C.2.1 dX0_fillGrid_76 hl (k := 5) rfl rfl (by decide) rfl (fun ls hl => ?_)
      refine lv_goto (tgt := 6) C.1 C.2.1 dX0_fillGrid_79 (by decide) ?_
      exact hk6 _ _ _ _ _ _ h _ _ ls (lv_sub hl [1, 2, 3, 4, 5, 0] rfl) hw hS
    · have h := it_t c22 h
      refine lv_iconst (v := 0) C.1 C.2.1 dX0_fillGrid_25 (by decide) ?_
      refine lv_istore (lv' := [(6, .int 0), (0, .ref (tad θ 2)), (1, .ref (tad θ 1)), (2, .int x2), (3, .int x3), (4, .int x4), (5, .int x5)]) C.1 C.2.1 dX0_fillGrid_26 hl (by decide) rfl (fun ls hl => ?_)
      exact t_X0_fillGrid_28 C N hk6 _ _ _ _ _ _ _ h _ _ ls (lv_sub hl [1, 2, 3, 4, 5, 6, 0] rfl) hw hS
theorem t_X0_fillGrid_6 {θ : Th} {p : Program} {l : Launch} {e : Env} {s : State} {m : MethodId} {args : Array Value} {below : List Frame} {meth : Method} {c : Code} (C : Cx θ p s m args meth c cX0_fillGrid 7 RX0 none) (N : Nat) : J_X0_fillGrid_6 θ p l e s m args below meth c (b_X0_fillGrid_6 N) := lpT_ind (J := J_X0_fillGrid_6 θ p l e s m args below meth c) (fun _ _ _ _ _ _ h => by cases h) (fun k hk => tF_X0_fillGrid_6 C N hk) N
def b_X0_fillGrid_0 (N : Nat) (x2 : Int32) (x3 : Int32) (M : Mm) : Option Mm :=
  b_X0_fillGrid_6 N x2 x3 0 0 M
set_option maxRecDepth 100000 in
set_option maxHeartbeats 4000000 in
theorem t_X0_fillGrid_0 {θ : Th} {p : Program} {l : Launch} {e : Env} {s : State} {m : MethodId} {args : Array Value} {below : List Frame} {meth : Method} {c : Code} (C : Cx θ p s m args meth c cX0_fillGrid 7 RX0 none) (N : Nat) : J_X0_fillGrid_0 θ p l e s m args below meth c (b_X0_fillGrid_0 N) := by
  intro x2 x3 M M1 h H locs ls hl hw hS
  unfold b_X0_fillGrid_0 at h
  refine lv_iconst (v := 0) C.1 C.2.1 dX0_fillGrid_0 (by decide) ?_
  refine lv_istore (lv' := [(4, .int 0), (0, .ref (tad θ 2)), (1, .ref (tad θ 1)), (2, .int x2), (3, .int x3)]) C.1 C.2.1 dX0_fillGrid_1 hl (by decide) rfl (fun ls hl => ?_)
  refine lv_iconst (v := 0) C.1 C.2.1 dX0_fillGrid_3 (by decide) ?_
  refine lv_istore (lv' := [(5, .int 0), (4, .int 0), (0, .ref (tad θ 2)), (1, .ref (tad θ 1)), (2, .int x2), (3, .int x3)]) C.1 C.2.1 dX0_fillGrid_4 hl (by decide) rfl (fun ls hl => ?_)
  exact t_X0_fillGrid_6 C N _ _ _ _ _ _ h _ _ ls (lv_sub hl [2, 3, 4, 5, 1, 0] rfl) hw hS
def f_X0_fillGrid (N : Nat) (x2 : Int32) (x3 : Int32) (M : Mm) : Option Mm := b_X0_fillGrid_0 N x2 x3 M
set_option maxRecDepth 100000 in
theorem c_X0_fillGrid (θ : Th) (l : Launch) (N : Nat) {x2 : Int32} {x3 : Int32} {M : Mm} {M1 : Mm} (h : f_X0_fillGrid N x2 x3 M = some M1) : Met l yX0_fillGrid (gws yX0_fillGrid cX0_fillGrid 7 none) rm_X0_fillGrid (va_Pc [.ref (tad θ 2), .ref (tad θ 1), .int x2, .int x3] (wU θ M)) (qV θ M1) 0 0 (tA θ) :=
  k_met (by decide +kernel) (Nat.le_of_ble_eq_true rfl) (fun p e s m args below meth c C ls hl hw => t_X0_fillGrid_0 C N _ _ _ _ h _ _ ls (lv_sub hl [0, 1, 2, 3] rfl) hw va_S.rf)
abbrev rm_X0_findParts : Room := { frames := 1, cells := 0, slots := 0, locals := 29 }
def J_X0_findParts_21 (θ : Th) (p : Program) (l : Launch) (e : Env) (s : State) (m : MethodId) (args : Array Value) (below : List Frame) (meth : Method) (c : Code) (g : Int32 → Int64 → Int32 → Mm → Option (Int32 × Mm)) : Prop := ∀ (x1 : Int32) (x2 : Int64) (x4 : Int32) (M : Mm) (r : Int32) (M1 : Mm), g x1 x2 x4 M = some (r, M1) → ∀ (H : Heap) (locs : List Loc) (ls : Array Slot), lv_has ls 5 [(0, .ref (tad θ 2)), (1, .int x1), (2, .long x2), (4, .int x4)] → wd θ M H → va_S (tA θ) s.heap H locs → W p l e rm_X0_findParts s m args below meth c H locs 0 0 (MQ below (qI θ r M1) args s 0 0 (tA θ)) (F0 m 21 ls [])
def J_X0_findParts_0 (θ : Th) (p : Program) (l : Launch) (e : Env) (s : State) (m : MethodId) (args : Array Value) (below : List Frame) (meth : Method) (c : Code) (g : Int32 → Mm → Option (Int32 × Mm)) : Prop := ∀ (x1 : Int32) (M : Mm) (r : Int32) (M1 : Mm), g x1 M = some (r, M1) → ∀ (H : Heap) (locs : List Loc) (ls : Array Slot), lv_has ls 5 [(0, .ref (tad θ 2)), (1, .int x1)] → wd θ M H → va_S (tA θ) s.heap H locs → W p l e rm_X0_findParts s m args below meth c H locs 0 0 (MQ below (qI θ r M1) args s 0 0 (tA θ)) (F0 m 0 ls [])
def F_X0_findParts_21 (N : Nat) (k21 : Int32 → Int64 → Int32 → Mm → Option (Int32 × Mm)) (x1 : Int32) (x2 : Int64) (x4 : Int32) (M : Mm) : Option (Int32 × Mm) :=
  (if x1 ≤ x4 then some (1, M) else (f_X0_cofactor N x4 M).bind fun (r37, M37) => (wL M37 0 x4 (x2 * r37)).bind fun M41 => (rL M41 0 x4).bind fun v48 => (if 0 < (lg_cmp v48 0) then k21 x1 x2 (x4 + 1) M41 else some (0, M41)))
abbrev b_X0_findParts_21 (N : Nat) : Int32 → Int64 → Int32 → Mm → Option (Int32 × Mm) := lpT (fun _ _ _ _ => none) (F_X0_findParts_21 N) N
set_option maxRecDepth 100000 in
set_option maxHeartbeats 4000000 in
theorem tF_X0_findParts_21 {θ : Th} {p : Program} {l : Launch} {e : Env} {s : State} {m : MethodId} {args : Array Value} {below : List Frame} {meth : Method} {c : Code} (C : Cx θ p s m args meth c cX0_findParts 5 RX0 (some .boolean)) (N : Nat) {k21 : Int32 → Int64 → Int32 → Mm → Option (Int32 × Mm)} (hk21 : J_X0_findParts_21 θ p l e s m args below meth c k21) : J_X0_findParts_21 θ p l e s m args below meth c (F_X0_findParts_21 N k21) := by
  intro x1 x2 x4 M r M1 h H locs ls hl hw hS
  unfold F_X0_findParts_21 at h
  refine lv_iload C.1 C.2.1 dX0_findParts_21 (lv_at hl 3 rfl) ?_
  refine lv_iload_n C.1 C.2.1 dX0_findParts_23 rfl (lv_at hl 1 rfl) ?_
  refine lv_icmp_ge (tgt := 62) C.1 C.2.1 dX0_findParts_24 (by decide) (fun c24 => ?_) (fun c24 => ?_)
  · have h := it_t c24 h
    refine lv_iconst (v := 1) C.1 C.2.1 dX0_findParts_62 (by decide) ?_
    cases h
    exact k_retz C hw hS (Or.inr rfl) dX0_findParts_63
  · have h := it_f c24 h
    refine lv_aload_n C.1 C.2.1 dX0_findParts_27 rfl (lv_at hl 0 rfl) ?_
    refine gf_X0_parts C hw w_115 dX0_findParts_28 ?_
    refine lv_iload C.1 C.2.1 dX0_findParts_31 (lv_at hl 3 rfl) ?_
    refine lv_lload_n C.1 C.2.1 dX0_findParts_33 rfl (lv_at hl 2 rfl) ?_
    refine lv_aload_n C.1 C.2.1 dX0_findParts_34 rfl (lv_at hl 0 rfl) ?_
    refine lv_iload C.1 C.2.1 dX0_findParts_35 (lv_at hl 3 rfl) ?_
    obtain ⟨⟨r37, M37⟩, h37, h⟩ := bind_s h
    dsimp only at h
    refine k_cl (k_runV (As := [.int x4]) C cf_X0_cofactor cv_X0_cofactor w_185 rc2 (c_X0_cofactor θ l N h37) ⟨rfl, rfl, Nat.le_of_ble_eq_true rfl, Nat.le_of_ble_eq_true rfl⟩ rfl hl.1 rfl (Nat.le_of_ble_eq_true rfl) dX0_findParts_37 ⟨Nat.zero_le _, Nat.zero_le _⟩ hw) hS (fun H locs hw hS => ?_)
    refine lv_lmul C.1 C.2.1 dX0_findParts_40 ?_
    obtain ⟨M41, h41, h⟩ := bind_s h
    refine k_last C hw hS 0 h41 dX0_findParts_41 (fun H locs hw hS => ?_)
    refine lv_aload_n C.1 C.2.1 dX0_findParts_42 rfl (lv_at hl 0 rfl) ?_
    refine gf_X0_parts C hw w_115 dX0_findParts_43 ?_
    refine lv_iload C.1 C.2.1 dX0_findParts_46 (lv_at hl 3 rfl) ?_
    obtain ⟨v48, h48, h⟩ := bind_s h
    refine k_lald C hw 0 h48 dX0_findParts_48 ?_
    refine lv_lconst (v := 0) C.1 C.2.1 dX0_findParts_49 (by decide) ?_
    refine W.lcmp C.1 C.2.1 dX0_findParts_50 ?_
    refine lv_if_gt (tgt := 56) C.1 C.2.1 dX0_findParts_51 (by decide) (fun c51 => ?_) (fun c51 => ?_)
    · have h := it_t c51 h
      refine lv_iinc (v := (x4 + 1)) (lv' := [(4, .int (x4 + 1)), (0, .ref (tad θ 2)), (1, .int x1), (2, .long x2)]) C.1 C.2.1 dX0_findParts_56 hl (k := 3) rfl rfl (by decide) rfl (fun ls hl => ?_)
      refine lv_goto (tgt := 21) C.1 C.2.1 dX0_findParts_59 (by decide) ?_
      exact hk21 _ _ _ _ _ _ h _ _ ls (lv_sub hl [1, 2, 3, 0] rfl) hw hS
    · have h := it_f c51 h
      refine lv_iconst (v := 0) C.1 C.2.1 dX0_findParts_54 (by decide) ?_
      cases h
      exact k_retz C hw hS (Or.inl rfl) dX0_findParts_55
theorem t_X0_findParts_21 {θ : Th} {p : Program} {l : Launch} {e : Env} {s : State} {m : MethodId} {args : Array Value} {below : List Frame} {meth : Method} {c : Code} (C : Cx θ p s m args meth c cX0_findParts 5 RX0 (some .boolean)) (N : Nat) : J_X0_findParts_21 θ p l e s m args below meth c (b_X0_findParts_21 N) := lpT_ind (J := J_X0_findParts_21 θ p l e s m args below meth c) (fun _ _ _ _ _ _ h => by cases h) (fun k hk => tF_X0_findParts_21 C N hk) N
def b_X0_findParts_0 (N : Nat) (x1 : Int32) (M : Mm) : Option (Int32 × Mm) :=
  (f_X0_cofactor N 0 M).bind fun (r2, M2) => (if 0 ≤ (lg_cmp r2 0) then b_X0_findParts_21 N x1 1 0 M2 else b_X0_findParts_21 N x1 (-1) 0 M2)
set_option maxRecDepth 100000 in
set_option maxHeartbeats 4000000 in
theorem t_X0_findParts_0 {θ : Th} {p : Program} {l : Launch} {e : Env} {s : State} {m : MethodId} {args : Array Value} {below : List Frame} {meth : Method} {c : Code} (C : Cx θ p s m args meth c cX0_findParts 5 RX0 (some .boolean)) (N : Nat) : J_X0_findParts_0 θ p l e s m args below meth c (b_X0_findParts_0 N) := by
  intro x1 M r M1 h H locs ls hl hw hS
  unfold b_X0_findParts_0 at h
  refine lv_aload_n C.1 C.2.1 dX0_findParts_0 rfl (lv_at hl 0 rfl) ?_
  refine lv_iconst (v := 0) C.1 C.2.1 dX0_findParts_1 (by decide) ?_
  obtain ⟨⟨r2, M2⟩, h2, h⟩ := bind_s h
  dsimp only at h
  refine k_cl (k_runV (As := [.int 0]) C cf_X0_cofactor cv_X0_cofactor w_185 rc2 (c_X0_cofactor θ l N h2) ⟨rfl, rfl, Nat.le_of_ble_eq_true rfl, Nat.le_of_ble_eq_true rfl⟩ rfl hl.1 rfl (Nat.le_of_ble_eq_true rfl) dX0_findParts_2 ⟨Nat.zero_le _, Nat.zero_le _⟩ hw) hS (fun H locs hw hS => ?_)
  refine lv_lconst (v := 0) C.1 C.2.1 dX0_findParts_5 (by decide) ?_
  refine W.lcmp C.1 C.2.1 dX0_findParts_6 ?_
  refine lv_if_ge (tgt := 16) C.1 C.2.1 dX0_findParts_7 (by decide) (fun c7 => ?_) (fun c7 => ?_)
  · have h := it_t c7 h
    refine lv_lconst (v := 1) C.1 C.2.1 dX0_findParts_16 (by decide) ?_
    refine lv_lstore_n (lv' := [(2, .long 1), (0, .ref (tad θ 2)), (1, .int x1)]) C.1 C.2.1 dX0_findParts_17 rfl hl (by decide) rfl (fun ls hl => ?_)
    refine lv_iconst (v := 0) C.1 C.2.1 dX0_findParts_18 (by decide) ?_
    refine lv_istore (lv' := [(4, .int 0), (2, .long 1), (0, .ref (tad θ 2)), (1, .int x1)]) C.1 C.2.1 dX0_findParts_19 hl (by decide) rfl (fun ls hl => ?_)
    exact t_X0_findParts_21 C N _ _ _ _ _ _ h _ _ ls (lv_sub hl [2, 3, 1, 0] rfl) hw hS
  · have h := it_f c7 h
    refine lv_ldc2 (v := -1) C.1 C.2.1 C.2.2.2.1 (C.2.2.2.2.1 _ w_189) dX0_findParts_10 ?_
    refine lv_goto (tgt := 17) C.1 C.2.1 dX0_findParts_13 (by decide) ?_
    refine lv_lstore_n (lv' := [(2, .long (-1)), (0, .ref (tad θ 2)), (1, .int x1)]) C.1 C.2.1 dX0_findParts_17 rfl hl (by decide) rfl (fun ls hl => ?_)
    refine lv_iconst (v := 0) C.1 C.2.1 dX0_findParts_18 (by decide) ?_
    refine lv_istore (lv' := [(4, .int 0), (2, .long (-1)), (0, .ref (tad θ 2)), (1, .int x1)]) C.1 C.2.1 dX0_findParts_19 hl (by decide) rfl (fun ls hl => ?_)
    exact t_X0_findParts_21 C N _ _ _ _ _ _ h _ _ ls (lv_sub hl [2, 3, 1, 0] rfl) hw hS
def f_X0_findParts (N : Nat) (x1 : Int32) (M : Mm) : Option (Int32 × Mm) := b_X0_findParts_0 N x1 M
set_option maxRecDepth 100000 in
theorem c_X0_findParts (θ : Th) (l : Launch) (N : Nat) {x1 : Int32} {M : Mm} {r : Int32} {M1 : Mm} (h : f_X0_findParts N x1 M = some (r, M1)) : Met l yX0_findParts (gws yX0_findParts cX0_findParts 5 (some .boolean)) rm_X0_findParts (va_Pc [.ref (tad θ 2), .int x1] (wU θ M)) (qI θ r M1) 0 0 (tA θ) :=
  k_met (by decide +kernel) (Nat.le_of_ble_eq_true rfl) (fun p e s m args below meth c C ls hl hw => t_X0_findParts_0 C N _ _ _ _ h _ _ ls (lv_sub hl [0, 1] rfl) hw va_S.rf)
abbrev rm_X0_tryRay : Room := { frames := 2, cells := 0, slots := 0, locals := 53 }
def J_X0_tryRay_70 (θ : Th) (p : Program) (l : Launch) (e : Env) (s : State) (m : MethodId) (args : Array Value) (below : List Frame) (meth : Method) (c : Code) (g : Int32 → Int32 → Nat → Int32 → Mm → Option Mm) : Prop := ∀ (x4 : Int32) (x5 : Int32) (x6 : Nat) (x7 : Int32) (M : Mm) (M1 : Mm), g x4 x5 x6 x7 M = some M1 → ∀ (H : Heap) (locs : List Loc) (ls : Array Slot), lv_has ls 8 [(0, .ref (tad θ 2)), (1, .ref (tad θ 1)), (4, .int x4), (5, .int x5), (6, .ref (tad θ (22 + x6))), (7, .int x7)] → wd θ M H → va_S (tA θ) s.heap H locs → W p l e rm_X0_tryRay s m args below meth c H locs 0 0 (MQ below (qV θ M1) args s 0 0 (tA θ)) (F0 m 70 ls [])
def J_X0_tryRay_48 (θ : Th) (p : Program) (l : Launch) (e : Env) (s : State) (m : MethodId) (args : Array Value) (below : List Frame) (meth : Method) (c : Code) (g : Int32 → Int32 → Nat → Int32 → Mm → Option Mm) : Prop := ∀ (x4 : Int32) (x5 : Int32) (x6 : Nat) (x7 : Int32) (M : Mm) (M1 : Mm), g x4 x5 x6 x7 M = some M1 → ∀ (H : Heap) (locs : List Loc) (ls : Array Slot), lv_has ls 8 [(0, .ref (tad θ 2)), (1, .ref (tad θ 1)), (4, .int x4), (5, .int x5), (6, .ref (tad θ (22 + x6))), (7, .int x7)] → wd θ M H → va_S (tA θ) s.heap H locs → W p l e rm_X0_tryRay s m args below meth c H locs 0 0 (MQ below (qV θ M1) args s 0 0 (tA θ)) (F0 m 48 ls [])
def J_X0_tryRay_0 (θ : Th) (p : Program) (l : Launch) (e : Env) (s : State) (m : MethodId) (args : Array Value) (below : List Frame) (meth : Method) (c : Code) (g : Int32 → Int32 → Int32 → Mm → Option Mm) : Prop := ∀ (x2 : Int32) (x3 : Int32) (x4 : Int32) (M : Mm) (M1 : Mm), g x2 x3 x4 M = some M1 → ∀ (H : Heap) (locs : List Loc) (ls : Array Slot), lv_has ls 8 [(0, .ref (tad θ 2)), (1, .ref (tad θ 1)), (2, .int x2), (3, .int x3), (4, .int x4)] → wd θ M H → va_S (tA θ) s.heap H locs → W p l e rm_X0_tryRay s m args below meth c H locs 0 0 (MQ below (qV θ M1) args s 0 0 (tA θ)) (F0 m 0 ls [])
def F_X0_tryRay_70 (N : Nat) (k70 : Int32 → Int32 → Nat → Int32 → Mm → Option Mm) (x4 : Int32) (x5 : Int32) (x6 : Nat) (x7 : Int32) (M : Mm) : Option Mm :=
  (if x5 ≤ x7 then (f_X1_holds N x6 x4 M).bind fun (r105, M105) => (if r105 = 0 then some M105 else some (wI M105 2 ((M105.1 2) + 1))) else (rA M 4 x7).bind fun v85 => (rL M 0 x7).bind fun v92 => (wL M x6 v85 v92).bind fun M93 => k70 x4 x5 x6 (x7 + 1) M93)
abbrev b_X0_tryRay_70 (N : Nat) : Int32 → Int32 → Nat → Int32 → Mm → Option Mm := lpT (fun _ _ _ _ _ => none) (F_X0_tryRay_70 N) N
set_option maxRecDepth 100000 in
set_option maxHeartbeats 4000000 in
theorem tF_X0_tryRay_70 {θ : Th} {p : Program} {l : Launch} {e : Env} {s : State} {m : MethodId} {args : Array Value} {below : List Frame} {meth : Method} {c : Code} (C : Cx θ p s m args meth c cX0_tryRay 8 RX0 none) (N : Nat) {k70 : Int32 → Int32 → Nat → Int32 → Mm → Option Mm} (hk70 : J_X0_tryRay_70 θ p l e s m args below meth c k70) : J_X0_tryRay_70 θ p l e s m args below meth c (F_X0_tryRay_70 N k70) := by
  intro x4 x5 x6 x7 M M1 h H locs ls hl hw hS
  unfold F_X0_tryRay_70 at h
  refine lv_iload C.1 C.2.1 dX0_tryRay_70 (lv_at hl 5 rfl) ?_
  refine lv_iload C.1 C.2.1 dX0_tryRay_72 (lv_at hl 3 rfl) ?_
  refine lv_icmp_ge (tgt := 100) C.1 C.2.1 dX0_tryRay_74 (by decide) (fun c74 => ?_) (fun c74 => ?_)
  · have h := it_t c74 h
    refine lv_aload_n C.1 C.2.1 dX0_tryRay_100 rfl (lv_at hl 1 rfl) ?_
    refine lv_aload C.1 C.2.1 dX0_tryRay_101 (lv_at hl 4 rfl) ?_
    refine lv_iload C.1 C.2.1 dX0_tryRay_103 (lv_at hl 2 rfl) ?_
    obtain ⟨⟨r105, M105⟩, h105, h⟩ := bind_s h
    dsimp only at h
    refine k_ci (k_runV (As := [.ref (tad θ (22 + x6)), .int x4]) C cf_X1_holds cv_X1_holds w_190 rc1 (c_X1_holds θ l N h105) ⟨rfl, rfl, Nat.le_of_ble_eq_true rfl, Nat.le_of_ble_eq_true rfl⟩ rfl hl.1 rfl (Nat.le_of_ble_eq_true rfl) dX0_tryRay_105 ⟨Nat.zero_le _, Nat.zero_le _⟩ hw) hS (fun H locs hw hS => ?_)
    refine lv_if_eq (tgt := 121) C.1 C.2.1 dX0_tryRay_108 (by decide) (fun c108 => ?_) (fun c108 => ?_)
    · have h := it_t c108 h
      cases h
      exact k_retv C hw hS dX0_tryRay_121
    · have h := it_f c108 h
      refine lv_aload_n C.1 C.2.1 dX0_tryRay_111 rfl (lv_at hl 0 rfl) ?_
      refine lv_dup C.1 C.2.1 dX0_tryRay_112 rfl ?_
      refine gf_X0_count C hw w_110 dX0_tryRay_113 ?_
      refine lv_iconst (v := 1) C.1 C.2.1 dX0_tryRay_116 (by decide) ?_
      refine lv_iadd C.1 C.2.1 dX0_tryRay_117 ?_
      refine pf_X0_count C hw hS w_110 dX0_tryRay_118 (fun H locs hw hS => ?_)
      cases h
      exact k_retv C hw hS dX0_tryRay_121
  · have h := it_f c74 h
    refine lv_aload C.1 C.2.1 dX0_tryRay_77 (lv_at hl 4 rfl) ?_
    refine lv_aload_n C.1 C.2.1 dX0_tryRay_79 rfl (lv_at hl 0 rfl) ?_
    refine gf_X0_places C hw w_114 dX0_tryRay_80 ?_
    refine lv_iload C.1 C.2.1 dX0_tryRay_83 (lv_at hl 5 rfl) ?_
    obtain ⟨v85, h85, h⟩ := bind_s h
    refine k_iald C hw 4 (by decide) h85 dX0_tryRay_85 ?_
    refine lv_aload_n C.1 C.2.1 dX0_tryRay_86 rfl (lv_at hl 0 rfl) ?_
    refine gf_X0_parts C hw w_115 dX0_tryRay_87 ?_
    refine lv_iload C.1 C.2.1 dX0_tryRay_90 (lv_at hl 5 rfl) ?_
    obtain ⟨v92, h92, h⟩ := bind_s h
    refine k_lald C hw 0 h92 dX0_tryRay_92 ?_
    obtain ⟨M93, h93, h⟩ := bind_s h
    refine k_last C hw hS x6 h93 dX0_tryRay_93 (fun H locs hw hS => ?_)
    refine lv_iinc (v := (x7 + 1)) (lv' := [(7, .int (x7 + 1)), (0, .ref (tad θ 2)), (1, .ref (tad θ 1)), (4, .int x4), (5, .int x5), (6, .ref (tad θ (22 + x6)))]) C.1 C.2.1 dX0_tryRay_94 hl (k := 5) rfl rfl (by decide) rfl (fun ls hl => ?_)
    refine lv_goto (tgt := 70) C.1 C.2.1 dX0_tryRay_97 (by decide) ?_
    exact hk70 _ _ _ _ _ _ h _ _ ls (lv_sub hl [1, 2, 3, 4, 5, 0] rfl) hw hS
theorem t_X0_tryRay_70 {θ : Th} {p : Program} {l : Launch} {e : Env} {s : State} {m : MethodId} {args : Array Value} {below : List Frame} {meth : Method} {c : Code} (C : Cx θ p s m args meth c cX0_tryRay 8 RX0 none) (N : Nat) : J_X0_tryRay_70 θ p l e s m args below meth c (b_X0_tryRay_70 N) := lpT_ind (J := J_X0_tryRay_70 θ p l e s m args below meth c) (fun _ _ _ _ _ _ h => by cases h) (fun k hk => tF_X0_tryRay_70 C N hk) N
def F_X0_tryRay_48 (N : Nat) (k48 : Int32 → Int32 → Nat → Int32 → Mm → Option Mm) (x4 : Int32) (x5 : Int32) (x6 : Nat) (x7 : Int32) (M : Mm) : Option Mm :=
  (if 6 ≤ x7 then b_X0_tryRay_70 N x4 x5 x6 0 M else (wL M x6 x7 0).bind fun M60 => k48 x4 x5 x6 (x7 + 1) M60)
abbrev b_X0_tryRay_48 (N : Nat) : Int32 → Int32 → Nat → Int32 → Mm → Option Mm := lpT (fun _ _ _ _ _ => none) (F_X0_tryRay_48 N) N
set_option maxRecDepth 100000 in
set_option maxHeartbeats 4000000 in
theorem tF_X0_tryRay_48 {θ : Th} {p : Program} {l : Launch} {e : Env} {s : State} {m : MethodId} {args : Array Value} {below : List Frame} {meth : Method} {c : Code} (C : Cx θ p s m args meth c cX0_tryRay 8 RX0 none) (N : Nat) {k48 : Int32 → Int32 → Nat → Int32 → Mm → Option Mm} (hk48 : J_X0_tryRay_48 θ p l e s m args below meth c k48) : J_X0_tryRay_48 θ p l e s m args below meth c (F_X0_tryRay_48 N k48) := by
  intro x4 x5 x6 x7 M M1 h H locs ls hl hw hS
  unfold F_X0_tryRay_48 at h
  refine lv_iload C.1 C.2.1 dX0_tryRay_48 (lv_at hl 5 rfl) ?_
  refine lv_bipush (v := 6) C.1 C.2.1 dX0_tryRay_50 (by decide) ?_
  refine lv_icmp_ge (tgt := 67) C.1 C.2.1 dX0_tryRay_52 (by decide) (fun c52 => ?_) (fun c52 => ?_)
  · have h := it_t c52 h
    refine lv_iconst (v := 0) C.1 C.2.1 dX0_tryRay_67 (by decide) ?_
    refine lv_istore (lv' := [(7, .int 0), (0, .ref (tad θ 2)), (1, .ref (tad θ 1)), (4, .int x4), (5, .int x5), (6, .ref (tad θ (22 + x6)))]) C.1 C.2.1 dX0_tryRay_68 hl (by decide) rfl (fun ls hl => ?_)
    exact t_X0_tryRay_70 C N _ _ _ _ _ _ h _ _ ls (lv_sub hl [1, 2, 3, 4, 5, 0] rfl) hw hS
  · have h := it_f c52 h
    refine lv_aload C.1 C.2.1 dX0_tryRay_55 (lv_at hl 4 rfl) ?_
    refine lv_iload C.1 C.2.1 dX0_tryRay_57 (lv_at hl 5 rfl) ?_
    refine lv_lconst (v := 0) C.1 C.2.1 dX0_tryRay_59 (by decide) ?_
    obtain ⟨M60, h60, h⟩ := bind_s h
    refine k_last C hw hS x6 h60 dX0_tryRay_60 (fun H locs hw hS => ?_)
    refine lv_iinc (v := (x7 + 1)) (lv' := [(7, .int (x7 + 1)), (0, .ref (tad θ 2)), (1, .ref (tad θ 1)), (4, .int x4), (5, .int x5), (6, .ref (tad θ (22 + x6)))]) C.1 C.2.1 dX0_tryRay_61 hl (k := 5) rfl rfl (by decide) rfl (fun ls hl => ?_)
    refine lv_goto (tgt := 48) C.1 C.2.1 dX0_tryRay_64 (by decide) ?_
    exact hk48 _ _ _ _ _ _ h _ _ ls (lv_sub hl [1, 2, 3, 4, 5, 0] rfl) hw hS
theorem t_X0_tryRay_48 {θ : Th} {p : Program} {l : Launch} {e : Env} {s : State} {m : MethodId} {args : Array Value} {below : List Frame} {meth : Method} {c : Code} (C : Cx θ p s m args meth c cX0_tryRay 8 RX0 none) (N : Nat) : J_X0_tryRay_48 θ p l e s m args below meth c (b_X0_tryRay_48 N) := lpT_ind (J := J_X0_tryRay_48 θ p l e s m args below meth c) (fun _ _ _ _ _ _ h => by cases h) (fun k hk => tF_X0_tryRay_48 C N hk) N
def b_X0_tryRay_0 (N : Nat) (x2 : Int32) (x3 : Int32) (x4 : Int32) (M : Mm) : Option Mm :=
  (f_X0_placeColumns N x2 M).bind fun (r2, M2) => (f_X0_fillGrid N x3 r2 M2).bind fun M12 => (if 126 ≤ (M12.1 2) then some M12 else (f_X0_findParts N r2 M12).bind fun (r27, M27) => (if r27 = 0 then some M27 else (rO 2 (M27.1 2)).bind fun v42 => b_X0_tryRay_48 N x4 r2 v42 0 M27))
set_option maxRecDepth 100000 in
set_option maxHeartbeats 4000000 in
theorem t_X0_tryRay_0 {θ : Th} {p : Program} {l : Launch} {e : Env} {s : State} {m : MethodId} {args : Array Value} {below : List Frame} {meth : Method} {c : Code} (C : Cx θ p s m args meth c cX0_tryRay 8 RX0 none) (N : Nat) : J_X0_tryRay_0 θ p l e s m args below meth c (b_X0_tryRay_0 N) := by
  intro x2 x3 x4 M M1 h H locs ls hl hw hS
  unfold b_X0_tryRay_0 at h
  refine lv_aload_n C.1 C.2.1 dX0_tryRay_0 rfl (lv_at hl 0 rfl) ?_
  refine lv_iload_n C.1 C.2.1 dX0_tryRay_1 rfl (lv_at hl 2 rfl) ?_
  obtain ⟨⟨r2, M2⟩, h2, h⟩ := bind_s h
  dsimp only at h
  refine k_ci (k_runV (As := [.int x2]) C cf_X0_placeColumns cv_X0_placeColumns w_169 rc2 (c_X0_placeColumns θ l N h2) ⟨rfl, rfl, Nat.le_of_ble_eq_true rfl, Nat.le_of_ble_eq_true rfl⟩ rfl hl.1 rfl (Nat.le_of_ble_eq_true rfl) dX0_tryRay_2 ⟨Nat.zero_le _, Nat.zero_le _⟩ hw) hS (fun H locs hw hS => ?_)
  refine lv_istore (lv' := [(5, .int r2), (0, .ref (tad θ 2)), (1, .ref (tad θ 1)), (2, .int x2), (3, .int x3), (4, .int x4)]) C.1 C.2.1 dX0_tryRay_5 hl (by decide) rfl (fun ls hl => ?_)
  refine lv_aload_n C.1 C.2.1 dX0_tryRay_7 rfl (lv_at hl 1 rfl) ?_
  refine lv_aload_n C.1 C.2.1 dX0_tryRay_8 rfl (lv_at hl 2 rfl) ?_
  refine lv_iload_n C.1 C.2.1 dX0_tryRay_9 rfl (lv_at hl 4 rfl) ?_
  refine lv_iload C.1 C.2.1 dX0_tryRay_10 (lv_at hl 0 rfl) ?_
  obtain ⟨M12, h12, h⟩ := bind_s h
  refine k_cv (k_runV (As := [.ref (tad θ 1), .int x3, .int r2]) C cf_X0_fillGrid cv_X0_fillGrid w_173 rc2 (c_X0_fillGrid θ l N h12) ⟨rfl, rfl, Nat.le_of_ble_eq_true rfl, Nat.le_of_ble_eq_true rfl⟩ rfl hl.1 rfl (Nat.le_of_ble_eq_true rfl) dX0_tryRay_12 ⟨Nat.zero_le _, Nat.zero_le _⟩ hw) hS (fun H locs hw hS => ?_)
  refine lv_aload_n C.1 C.2.1 dX0_tryRay_15 rfl (lv_at hl 1 rfl) ?_
  refine gf_X0_count C hw w_110 dX0_tryRay_16 ?_
  refine lv_bipush (v := 126) C.1 C.2.1 dX0_tryRay_19 (by decide) ?_
  refine lv_icmp_ge (tgt := 33) C.1 C.2.1 dX0_tryRay_21 (by decide) (fun c21 => ?_) (fun c21 => ?_)
  · have h := it_t c21 h
    cases h
    exact k_retv C hw hS dX0_tryRay_33
  · have h := it_f c21 h
    refine lv_aload_n C.1 C.2.1 dX0_tryRay_24 rfl (lv_at hl 1 rfl) ?_
    refine lv_iload C.1 C.2.1 dX0_tryRay_25 (lv_at hl 0 rfl) ?_
    obtain ⟨⟨r27, M27⟩, h27, h⟩ := bind_s h
    dsimp only at h
    refine k_ci (k_runV (As := [.int r2]) C cf_X0_findParts cv_X0_findParts w_181 rc2 (c_X0_findParts θ l N h27) ⟨rfl, rfl, Nat.le_of_ble_eq_true rfl, Nat.le_of_ble_eq_true rfl⟩ rfl hl.1 rfl (Nat.le_of_ble_eq_true rfl) dX0_tryRay_27 ⟨Nat.zero_le _, Nat.zero_le _⟩ hw) hS (fun H locs hw hS => ?_)
    refine lv_if_ne (tgt := 34) C.1 C.2.1 dX0_tryRay_30 (by decide) (fun c30 => ?_) (fun c30 => ?_)
    · have h := it_f c30 h
      refine lv_aload_n C.1 C.2.1 dX0_tryRay_34 rfl (lv_at hl 1 rfl) ?_
      refine gf_X0_rays C hw w_108 dX0_tryRay_35 ?_
      refine lv_aload_n C.1 C.2.1 dX0_tryRay_38 rfl (lv_at hl 1 rfl) ?_
      refine gf_X0_count C hw w_110 dX0_tryRay_39 ?_
      obtain ⟨v42, h42, h⟩ := bind_s h
      refine k_aald C hw 2 (by decide) h42 dX0_tryRay_42 ?_
      refine lv_astore (lv' := [(6, .ref (tad θ (22 + v42))), (5, .int r2), (0, .ref (tad θ 2)), (1, .ref (tad θ 1)), (2, .int x2), (3, .int x3), (4, .int x4)]) C.1 C.2.1 dX0_tryRay_43 hl (by decide) rfl (fun ls hl => ?_)
      refine lv_iconst (v := 0) C.1 C.2.1 dX0_tryRay_45 (by decide) ?_
      refine lv_istore (lv' := [(7, .int 0), (6, .ref (tad θ (22 + v42))), (5, .int r2), (0, .ref (tad θ 2)), (1, .ref (tad θ 1)), (2, .int x2), (3, .int x3), (4, .int x4)]) C.1 C.2.1 dX0_tryRay_46 hl (by decide) rfl (fun ls hl => ?_)
      exact t_X0_tryRay_48 C N _ _ _ _ _ _ h _ _ ls (lv_sub hl [3, 4, 7, 2, 1, 0] rfl) hw hS
    · have h := it_t c30 h
      cases h
      exact k_retv C hw hS dX0_tryRay_33
def f_X0_tryRay (N : Nat) (x2 : Int32) (x3 : Int32) (x4 : Int32) (M : Mm) : Option Mm := b_X0_tryRay_0 N x2 x3 x4 M
set_option maxRecDepth 100000 in
theorem c_X0_tryRay (θ : Th) (l : Launch) (N : Nat) {x2 : Int32} {x3 : Int32} {x4 : Int32} {M : Mm} {M1 : Mm} (h : f_X0_tryRay N x2 x3 x4 M = some M1) : Met l yX0_tryRay (gws yX0_tryRay cX0_tryRay 8 none) rm_X0_tryRay (va_Pc [.ref (tad θ 2), .ref (tad θ 1), .int x2, .int x3, .int x4] (wU θ M)) (qV θ M1) 0 0 (tA θ) :=
  k_met (by decide +kernel) (Nat.le_of_ble_eq_true rfl) (fun p e s m args below meth c C ls hl hw => t_X0_tryRay_0 C N _ _ _ _ _ h _ _ ls (lv_sub hl [0, 1, 2, 3, 4] rfl) hw va_S.rf)
abbrev rm_X0_collect : Room := { frames := 3, cells := 0, slots := 0, locals := 80 }
def J_X0_collect_35 (θ : Th) (p : Program) (l : Launch) (e : Env) (s : State) (m : MethodId) (args : Array Value) (below : List Frame) (meth : Method) (c : Code) (g : Int32 → Int32 → Int32 → Int32 → Mm → Option Mm) : Prop := ∀ (x2 : Int32) (x3 : Int32) (x4 : Int32) (x5 : Int32) (M : Mm) (M1 : Mm), g x2 x3 x4 x5 M = some M1 → ∀ (H : Heap) (locs : List Loc) (ls : Array Slot), lv_has ls 6 [(0, .ref (tad θ 2)), (1, .ref (tad θ 1)), (2, .int x2), (3, .int x3), (4, .int x4), (5, .int x5)] → wd θ M H → va_S (tA θ) s.heap H locs → W p l e rm_X0_collect s m args below meth c H locs 0 0 (MQ below (qV θ M1) args s 0 0 (tA θ)) (F0 m 35 ls [])
def J_X0_collect_16 (θ : Th) (p : Program) (l : Launch) (e : Env) (s : State) (m : MethodId) (args : Array Value) (below : List Frame) (meth : Method) (c : Code) (g : Int32 → Int32 → Mm → Option Mm) : Prop := ∀ (x2 : Int32) (x3 : Int32) (M : Mm) (M1 : Mm), g x2 x3 M = some M1 → ∀ (H : Heap) (locs : List Loc) (ls : Array Slot), lv_has ls 6 [(0, .ref (tad θ 2)), (1, .ref (tad θ 1)), (2, .int x2), (3, .int x3)] → wd θ M H → va_S (tA θ) s.heap H locs → W p l e rm_X0_collect s m args below meth c H locs 0 0 (MQ below (qV θ M1) args s 0 0 (tA θ)) (F0 m 16 ls [])
def J_X0_collect_0 (θ : Th) (p : Program) (l : Launch) (e : Env) (s : State) (m : MethodId) (args : Array Value) (below : List Frame) (meth : Method) (c : Code) (g : Int32 → Mm → Option Mm) : Prop := ∀ (x2 : Int32) (M : Mm) (M1 : Mm), g x2 M = some M1 → ∀ (H : Heap) (locs : List Loc) (ls : Array Slot), lv_has ls 6 [(0, .ref (tad θ 2)), (1, .ref (tad θ 1)), (2, .int x2)] → wd θ M H → va_S (tA θ) s.heap H locs → W p l e rm_X0_collect s m args below meth c H locs 0 0 (MQ below (qV θ M1) args s 0 0 (tA θ)) (F0 m 0 ls [])
def F_X0_collect_35 (N : Nat) (k16 : Int32 → Int32 → Mm → Option Mm) (k35 : Int32 → Int32 → Int32 → Int32 → Mm → Option Mm) (x2 : Int32) (x3 : Int32) (x4 : Int32) (x5 : Int32) (M : Mm) : Option Mm :=
  (if (1 <<< ((M.1 1) &&& 31)) ≤ x5 then k16 x2 (x3 + 1) M else (if (x5 &&& (x2 ^^^ (-1))) = 0 then (f_J6_bitCount_0f7a4 N x5 M).bind fun (r57, M57) => (if (r57 + 1) = x4 then (f_X0_tryRay N x3 x5 x2 M57).bind fun M73 => k35 x2 x3 x4 (x5 + 1) M73 else k35 x2 x3 x4 (x5 + 1) M57) else k35 x2 x3 x4 (x5 + 1) M))
abbrev b_X0_collect_35 (N : Nat) (k16 : Int32 → Int32 → Mm → Option Mm) : Int32 → Int32 → Int32 → Int32 → Mm → Option Mm := lpT (fun _ _ _ _ _ => none) (F_X0_collect_35 N k16) N
set_option maxRecDepth 100000 in
set_option maxHeartbeats 4000000 in
theorem tF_X0_collect_35 {θ : Th} {p : Program} {l : Launch} {e : Env} {s : State} {m : MethodId} {args : Array Value} {below : List Frame} {meth : Method} {c : Code} (C : Cx θ p s m args meth c cX0_collect 6 RX0 none) (N : Nat) {k16 : Int32 → Int32 → Mm → Option Mm} (hk16 : J_X0_collect_16 θ p l e s m args below meth c k16) {k35 : Int32 → Int32 → Int32 → Int32 → Mm → Option Mm} (hk35 : J_X0_collect_35 θ p l e s m args below meth c k35) : J_X0_collect_35 θ p l e s m args below meth c (F_X0_collect_35 N k16 k35) := by
  intro x2 x3 x4 x5 M M1 h H locs ls hl hw hS
  unfold F_X0_collect_35 at h
  refine lv_iload C.1 C.2.1 dX0_collect_35 (lv_at hl 5 rfl) ?_
  refine lv_iconst (v := 1) C.1 C.2.1 dX0_collect_37 (by decide) ?_
  refine lv_aload_n C.1 C.2.1 dX0_collect_38 rfl (lv_at hl 1 rfl) ?_
  refine gf_X1_rows C hw w_77 dX0_collect_39 ?_
  refine lv_ishl C.1 C.2.1 dX0_collect_42 ?_
  refine lv_icmp_ge (tgt := 82) C.1 C.2.1 dX0_collect_43 (by decide) (fun c43 => ?_) (fun c43 => ?_)
  · have h := it_t c43 h
    refine lv_iinc (v := (x3 + 1)) (lv' := [(3, .int (x3 + 1)), (0, .ref (tad θ 2)), (1, .ref (tad θ 1)), (2, .int x2), (4, .int x4), (5, .int x5)]) C.1 C.2.1 dX0_collect_82 hl (k := 3) rfl rfl (by decide) rfl (fun ls hl => ?_)
    refine lv_goto (tgt := 16) C.1 C.2.1 dX0_collect_85 (by decide) ?_
    exact hk16 _ _ _ _ h _ _ ls (lv_sub hl [1, 2, 3, 0] rfl) hw hS
  · have h := it_f c43 h
    refine lv_iload C.1 C.2.1 dX0_collect_46 (lv_at hl 5 rfl) ?_
    refine lv_iload_n C.1 C.2.1 dX0_collect_48 rfl (lv_at hl 2 rfl) ?_
    refine lv_iconst (v := (-1)) C.1 C.2.1 dX0_collect_49 (by decide) ?_
    refine lv_ixor C.1 C.2.1 dX0_collect_50 ?_
    refine lv_iand C.1 C.2.1 dX0_collect_51 ?_
    refine lv_if_ne (tgt := 76) C.1 C.2.1 dX0_collect_52 (by decide) (fun c52 => ?_) (fun c52 => ?_)
    · have h := it_f c52 h
      refine lv_iinc (v := (x5 + 1)) (lv' := [(5, .int (x5 + 1)), (0, .ref (tad θ 2)), (1, .ref (tad θ 1)), (2, .int x2), (3, .int x3), (4, .int x4)]) C.1 C.2.1 dX0_collect_76 hl (k := 5) rfl rfl (by decide) rfl (fun ls hl => ?_)
      refine lv_goto (tgt := 35) C.1 C.2.1 dX0_collect_79 (by decide) ?_
      exact hk35 _ _ _ _ _ _ h _ _ ls (lv_sub hl [1, 2, 3, 4, 5, 0] rfl) hw hS
    · have h := it_t c52 h
      refine lv_iload C.1 C.2.1 dX0_collect_55 (lv_at hl 5 rfl) ?_
      obtain ⟨⟨r57, M57⟩, h57, h⟩ := bind_s h
      dsimp only at h
      refine k_ci (k_runS (As := [.int x5]) C cf_J6_bitCount_0f7a4 cs_J6_bitCount_0f7a4 w_159 (c_J6_bitCount_0f7a4 θ l N h57) ⟨rfl, rfl, Nat.le_of_ble_eq_true rfl, Nat.le_of_ble_eq_true rfl⟩ rfl hl.1 rfl (Nat.le_of_ble_eq_true rfl) dX0_collect_57 ⟨Nat.zero_le _, Nat.zero_le _⟩ hw) hS (fun H locs hw hS => ?_)
      refine lv_iconst (v := 1) C.1 C.2.1 dX0_collect_60 (by decide) ?_
      refine lv_iadd C.1 C.2.1 dX0_collect_61 ?_
      refine lv_iload C.1 C.2.1 dX0_collect_62 (lv_at hl 4 rfl) ?_
      refine lv_icmp_ne (tgt := 76) C.1 C.2.1 dX0_collect_64 (by decide) (fun c64 => ?_) (fun c64 => ?_)
      · have h := it_f c64 h
        refine lv_iinc (v := (x5 + 1)) (lv' := [(5, .int (x5 + 1)), (0, .ref (tad θ 2)), (1, .ref (tad θ 1)), (2, .int x2), (3, .int x3), (4, .int x4)]) C.1 C.2.1 dX0_collect_76 hl (k := 5) rfl rfl (by decide) rfl (fun ls hl => ?_)
        refine lv_goto (tgt := 35) C.1 C.2.1 dX0_collect_79 (by decide) ?_
        exact hk35 _ _ _ _ _ _ h _ _ ls (lv_sub hl [1, 2, 3, 4, 5, 0] rfl) hw hS
      · have h := it_t c64 h
        refine lv_aload_n C.1 C.2.1 dX0_collect_67 rfl (lv_at hl 0 rfl) ?_
        refine lv_aload_n C.1 C.2.1 dX0_collect_68 rfl (lv_at hl 1 rfl) ?_
        refine lv_iload_n C.1 C.2.1 dX0_collect_69 rfl (lv_at hl 3 rfl) ?_
        refine lv_iload C.1 C.2.1 dX0_collect_70 (lv_at hl 5 rfl) ?_
        refine lv_iload_n C.1 C.2.1 dX0_collect_72 rfl (lv_at hl 2 rfl) ?_
        obtain ⟨M73, h73, h⟩ := bind_s h
        refine k_cv (k_runV (As := [.ref (tad θ 1), .int x3, .int x5, .int x2]) C cf_X0_tryRay cv_X0_tryRay w_165 rc2 (c_X0_tryRay θ l N h73) ⟨rfl, rfl, Nat.le_of_ble_eq_true rfl, Nat.le_of_ble_eq_true rfl⟩ rfl hl.1 rfl (Nat.le_of_ble_eq_true rfl) dX0_collect_73 ⟨Nat.zero_le _, Nat.zero_le _⟩ hw) hS (fun H locs hw hS => ?_)
        refine lv_iinc (v := (x5 + 1)) (lv' := [(5, .int (x5 + 1)), (0, .ref (tad θ 2)), (1, .ref (tad θ 1)), (2, .int x2), (3, .int x3), (4, .int x4)]) C.1 C.2.1 dX0_collect_76 hl (k := 5) rfl rfl (by decide) rfl (fun ls hl => ?_)
        refine lv_goto (tgt := 35) C.1 C.2.1 dX0_collect_79 (by decide) ?_
        exact hk35 _ _ _ _ _ _ h _ _ ls (lv_sub hl [1, 2, 3, 4, 5, 0] rfl) hw hS
theorem t_X0_collect_35 {θ : Th} {p : Program} {l : Launch} {e : Env} {s : State} {m : MethodId} {args : Array Value} {below : List Frame} {meth : Method} {c : Code} (C : Cx θ p s m args meth c cX0_collect 6 RX0 none) (N : Nat) {k16 : Int32 → Int32 → Mm → Option Mm} (hk16 : J_X0_collect_16 θ p l e s m args below meth c k16) : J_X0_collect_35 θ p l e s m args below meth c (b_X0_collect_35 N k16) := lpT_ind (J := J_X0_collect_35 θ p l e s m args below meth c) (fun _ _ _ _ _ _ h => by cases h) (fun k hk => tF_X0_collect_35 C N hk16 hk) N
def F_X0_collect_16 (N : Nat) (k16 : Int32 → Int32 → Mm → Option Mm) (x2 : Int32) (x3 : Int32) (M : Mm) : Option Mm :=
  (f_X1_columns N M).bind fun (r19, M19) => (if (1 <<< (r19 &&& 31)) ≤ x3 then some (wI M19 3 x2) else (f_J6_bitCount_0f7a4 N x3 M19).bind fun (r27, M27) => b_X0_collect_35 N k16 x2 x3 r27 0 M27)
abbrev b_X0_collect_16 (N : Nat) : Int32 → Int32 → Mm → Option Mm := lpT (fun _ _ _ => none) (F_X0_collect_16 N) N
set_option maxRecDepth 100000 in
set_option maxHeartbeats 4000000 in
theorem tF_X0_collect_16 {θ : Th} {p : Program} {l : Launch} {e : Env} {s : State} {m : MethodId} {args : Array Value} {below : List Frame} {meth : Method} {c : Code} (C : Cx θ p s m args meth c cX0_collect 6 RX0 none) (N : Nat) {k16 : Int32 → Int32 → Mm → Option Mm} (hk16 : J_X0_collect_16 θ p l e s m args below meth c k16) : J_X0_collect_16 θ p l e s m args below meth c (F_X0_collect_16 N k16) := by
  intro x2 x3 M M1 h H locs ls hl hw hS
  unfold F_X0_collect_16 at h
  refine lv_iload_n C.1 C.2.1 dX0_collect_16 rfl (lv_at hl 3 rfl) ?_
  refine lv_iconst (v := 1) C.1 C.2.1 dX0_collect_17 (by decide) ?_
  refine lv_aload_n C.1 C.2.1 dX0_collect_18 rfl (lv_at hl 1 rfl) ?_
  obtain ⟨⟨r19, M19⟩, h19, h⟩ := bind_s h
  dsimp only at h
  refine k_ci (k_runV (As := []) C cf_X1_columns cv_X1_columns w_155 rc1 (c_X1_columns θ l N h19) ⟨rfl, rfl, Nat.le_of_ble_eq_true rfl, Nat.le_of_ble_eq_true rfl⟩ rfl hl.1 rfl (Nat.le_of_ble_eq_true rfl) dX0_collect_19 ⟨Nat.zero_le _, Nat.zero_le _⟩ hw) hS (fun H locs hw hS => ?_)
  refine lv_ishl C.1 C.2.1 dX0_collect_22 ?_
  refine lv_icmp_ge (tgt := 88) C.1 C.2.1 dX0_collect_23 (by decide) (fun c23 => ?_) (fun c23 => ?_)
  · have h := it_t c23 h
    refine lv_aload_n C.1 C.2.1 dX0_collect_88 rfl (lv_at hl 0 rfl) ?_
    refine lv_iload_n C.1 C.2.1 dX0_collect_89 rfl (lv_at hl 2 rfl) ?_
    refine pf_X0_collected C hw hS w_112 dX0_collect_90 (fun H locs hw hS => ?_)
    cases h
    exact k_retv C hw hS dX0_collect_93
  · have h := it_f c23 h
    refine lv_iload_n C.1 C.2.1 dX0_collect_26 rfl (lv_at hl 3 rfl) ?_
    obtain ⟨⟨r27, M27⟩, h27, h⟩ := bind_s h
    dsimp only at h
    refine k_ci (k_runS (As := [.int x3]) C cf_J6_bitCount_0f7a4 cs_J6_bitCount_0f7a4 w_159 (c_J6_bitCount_0f7a4 θ l N h27) ⟨rfl, rfl, Nat.le_of_ble_eq_true rfl, Nat.le_of_ble_eq_true rfl⟩ rfl hl.1 rfl (Nat.le_of_ble_eq_true rfl) dX0_collect_27 ⟨Nat.zero_le _, Nat.zero_le _⟩ hw) hS (fun H locs hw hS => ?_)
    refine lv_istore (lv' := [(4, .int r27), (0, .ref (tad θ 2)), (1, .ref (tad θ 1)), (2, .int x2), (3, .int x3)]) C.1 C.2.1 dX0_collect_30 hl (by decide) rfl (fun ls hl => ?_)
    refine lv_iconst (v := 0) C.1 C.2.1 dX0_collect_32 (by decide) ?_
    refine lv_istore (lv' := [(5, .int 0), (4, .int r27), (0, .ref (tad θ 2)), (1, .ref (tad θ 1)), (2, .int x2), (3, .int x3)]) C.1 C.2.1 dX0_collect_33 hl (by decide) rfl (fun ls hl => ?_)
    exact t_X0_collect_35 C N hk16 _ _ _ _ _ _ h _ _ ls (lv_sub hl [2, 3, 4, 5, 1, 0] rfl) hw hS
theorem t_X0_collect_16 {θ : Th} {p : Program} {l : Launch} {e : Env} {s : State} {m : MethodId} {args : Array Value} {below : List Frame} {meth : Method} {c : Code} (C : Cx θ p s m args meth c cX0_collect 6 RX0 none) (N : Nat) : J_X0_collect_16 θ p l e s m args below meth c (b_X0_collect_16 N) := lpT_ind (J := J_X0_collect_16 θ p l e s m args below meth c) (fun _ _ _ _ h => by cases h) (fun k hk => tF_X0_collect_16 C N hk) N
def b_X0_collect_0 (N : Nat) (x2 : Int32) (M : Mm) : Option Mm :=
  (if (M.1 3) = x2 then some M else b_X0_collect_16 N x2 1 (wI M 2 0))
set_option maxRecDepth 100000 in
set_option maxHeartbeats 4000000 in
theorem t_X0_collect_0 {θ : Th} {p : Program} {l : Launch} {e : Env} {s : State} {m : MethodId} {args : Array Value} {below : List Frame} {meth : Method} {c : Code} (C : Cx θ p s m args meth c cX0_collect 6 RX0 none) (N : Nat) : J_X0_collect_0 θ p l e s m args below meth c (b_X0_collect_0 N) := by
  intro x2 M M1 h H locs ls hl hw hS
  unfold b_X0_collect_0 at h
  refine lv_aload_n C.1 C.2.1 dX0_collect_0 rfl (lv_at hl 0 rfl) ?_
  refine gf_X0_collected C hw w_112 dX0_collect_1 ?_
  refine lv_iload_n C.1 C.2.1 dX0_collect_4 rfl (lv_at hl 2 rfl) ?_
  refine lv_icmp_ne (tgt := 9) C.1 C.2.1 dX0_collect_5 (by decide) (fun c5 => ?_) (fun c5 => ?_)
  · have h := it_f c5 h
    refine lv_aload_n C.1 C.2.1 dX0_collect_9 rfl (lv_at hl 0 rfl) ?_
    refine lv_iconst (v := 0) C.1 C.2.1 dX0_collect_10 (by decide) ?_
    refine pf_X0_count C hw hS w_110 dX0_collect_11 (fun H locs hw hS => ?_)
    refine lv_iconst (v := 1) C.1 C.2.1 dX0_collect_14 (by decide) ?_
    refine lv_istore_n (lv' := [(3, .int 1), (0, .ref (tad θ 2)), (1, .ref (tad θ 1)), (2, .int x2)]) C.1 C.2.1 dX0_collect_15 rfl hl (by decide) rfl (fun ls hl => ?_)
    exact t_X0_collect_16 C N _ _ _ _ h _ _ ls (lv_sub hl [1, 2, 3, 0] rfl) hw hS
  · have h := it_t c5 h
    cases h
    exact k_retv C hw hS dX0_collect_8
def f_X0_collect (N : Nat) (x2 : Int32) (M : Mm) : Option Mm := b_X0_collect_0 N x2 M
set_option maxRecDepth 100000 in
theorem c_X0_collect (θ : Th) (l : Launch) (N : Nat) {x2 : Int32} {M : Mm} {M1 : Mm} (h : f_X0_collect N x2 M = some M1) : Met l yX0_collect (gws yX0_collect cX0_collect 6 none) rm_X0_collect (va_Pc [.ref (tad θ 2), .ref (tad θ 1), .int x2] (wU θ M)) (qV θ M1) 0 0 (tA θ) :=
  k_met (by decide +kernel) (Nat.le_of_ble_eq_true rfl) (fun p e s m args below meth c C ls hl hw => t_X0_collect_0 C N _ _ _ h _ _ ls (lv_sub hl [0, 1, 2] rfl) hw va_S.rf)
