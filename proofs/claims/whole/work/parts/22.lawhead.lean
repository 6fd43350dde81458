/-! THE CLAIM OUT OF ONE WALK OF THE LAW'S BODY. Your part is whole_start (and what it stands on); all else here is the same for every law, but numbers. -/
def R_law : String := "RationalProgramLaw"
def lw_P (b : Addr) (xs : List Int32) (args : Array Value) (s : State) : Prop := args = #[.ref b] ∧ s.IntsAt b xs ∧ xs.length ≤ 2048 ∧ (Jvm.Cond.and given_1 narrow_1).before args s = true
def lw_Q (_ : Array Value) (s : State) (o : Outcome) (t : State) : Prop := o = .returned (some (.int 1)) ∧ Framed s o t [] 601024 7293033
def lw_Z (below : List Frame) (a : Array Value) (s : State) : State → Prop := fun t => ∃ o, t.status = .running ∧ Ended t below o ∧ lw_Q a s o t
/-- the law's own end, with 1 on the stack, nothing written that was there before, its room as the claim has it -/
theorem lw_ret {p : Program} {l : Launch} {e : Env} {s : State} {m : MethodId} {below : List Frame} {meth : Method} {c : Code} {b : Nat} (hx : p.tables.exec = Jvm.exec) (hb : c.code = code) (hr : meth.sig.returnType = ret) (hlocks : meth.locks = false) {pc : Nat} {H : Heap} {ls : Array Slot} (hdg : decode code pc = .ok (.ireturn, 1)) : W p l e room_1 s m #[Value.ref b] below meth c H [] 601024 7293033 (lw_Z below #[Value.ref b] s) (F0 m pc ls [.int 1]) := by
  intro T hT X
  obtain ⟨fs, hret, hrun, hended, hW, hframe⟩ := X.leave (v := some (.int 1)) (hlocks := hlocks) (fun h => by rw [hr] at h; cases h)
  have hmeth' : T.vm.method? m = some meth := X.method'
  refine ⟨T.setFrames fs, ?_, .returned (some (.int 1)), hrun, hended, rfl, ⟨_, rfl⟩, hW, hframe⟩
  jvm_step X.here [X.here.top, hx, hb, hdg, hmeth', hr, ret, narrow_b1]
  (try refine ⟨rfl, ?_⟩); (try refine ⟨rfl, ?_⟩)
  first | (intro acts; rw [hret _ acts rfl rfl rfl]) | rw [hret _ _ rfl rfl rfl]
  exact Steps.refl _
/-- what holds at the law's entry: the machine, the code, the tables' words (any of lw_tbl by 'hts w (by decide +kernel)'), the script of L ints xs at the cell b, what the Statement gives of the start (any of its parts by flat_of_before) -/
def lw_At (p : Program) (s : State) (m : MethodId) (meth : Method) (c : Code) (b L : Nat) (xs : Nat → Int32) : Prop :=
  p.tables.exec = Jvm.exec ∧ c.code = code ∧ meth.sig.returnType = ret ∧ c.maxLocals = 8 ∧ s.vm.findClass R_law = some m.cls ∧ (∀ w ∈ lw_tbl, w.before #[Value.ref b] s = true) ∧ va_X b L xs s s.heap ∧ b < s.heap.size ∧ meth.locks = false ∧ (Jvm.Cond.and given_1 narrow_1).before #[Value.ref b] s = true
def rS (L : Nat) (xs : Nat → Int32) (i : Int32) : Option Int32 := if i < 0 ∨ L ≤ i.toNatClampNeg then none else some (xs i.toNatClampNeg)
def CH (y : MethodName) (bytes : ByteArray) (mL : Nat) (hh : List (Nat × Nat × Nat × Nat)) (n : Nat) : Prop :=
  Cond.codeWith y bytes mL (some .int) hh ∈ gw ∧ Cond.initialized y.cls ∈ gw ∧ Cond.static y ∈ gw ∧ y.cls ≠ "java/lang/invoke/MethodHandle" ∧ y.cls ≠ "java/lang/invoke/VarHandle" ∧ (parseMethodDescriptor y.desc).map (fun d => d.parameters.length) = some n
theorem law_c {n : Nat} (h : n ≤ 512) : 601024 - (n + 1) + 1 ≤ 601024 - n := by omega
theorem law_s {n : Nat} (h : n ≤ 512) : 7293033 - 6 * (n + 1) + 6 ≤ 7293033 - 6 * n := by omega
theorem law_c0 {n : Nat} (h : n ≤ 512) : 601024 - (n + 1) ≤ 601024 - n := by omega
theorem law_s0 {n : Nat} (h : n ≤ 512) : 7293033 - 6 * (n + 1) ≤ 7293033 - 6 * n := by omega
theorem law_f {n : Nat} (h : n ≤ 512) : 601024 - (n + 1) + 1 ≤ room_1.cells ∧ 7293033 - 6 * (n + 1) + 6 ≤ room_1.slots := ⟨by show 601024 - (n + 1) + 1 ≤ 601024; omega, by show 7293033 - 6 * (n + 1) + 6 ≤ 7293033; omega⟩
theorem sw_out {x : Int32} (h : (¬ x = 0) ∧ (¬ x = 1) ∧ (¬ x = 2) ∧ (¬ x = 3) ∧ (¬ x = 4) ∧ (¬ x = 5) ∧ (¬ x = 6) ∧ (¬ x = 7) ∧ (¬ x = 8) ∧ (¬ x = 9) ∧ (¬ x = 10) ∧ (¬ x = 11) ∧ ¬ x = 12) : x.toInt < 0 ∨ 12 < x.toInt := by
  obtain ⟨h0, h1, h2, h3, h4, h5, h6, h7, h8, h9, h10, h11, h12⟩ := h
  have g : ∀ (k : Int32), ¬ x = k → x.toInt ≠ k.toInt := fun k hk e => hk (Int32.toInt_inj.mp e)
  have a0 := g _ h0
  have a1 := g _ h1
  have a2 := g _ h2
  have a3 := g _ h3
  have a4 := g _ h4
  have a5 := g _ h5
  have a6 := g _ h6
  have a7 := g _ h7
  have a8 := g _ h8
  have a9 := g _ h9
  have a10 := g _ h10
  have a11 := g _ h11
  have a12 := g _ h12
  rw [show (0 : Int32).toInt = 0 by decide] at a0
  rw [show (1 : Int32).toInt = 1 by decide] at a1
  rw [show (2 : Int32).toInt = 2 by decide] at a2
  rw [show (3 : Int32).toInt = 3 by decide] at a3
  rw [show (4 : Int32).toInt = 4 by decide] at a4
  rw [show (5 : Int32).toInt = 5 by decide] at a5
  rw [show (6 : Int32).toInt = 6 by decide] at a6
  rw [show (7 : Int32).toInt = 7 by decide] at a7
  rw [show (8 : Int32).toInt = 8 by decide] at a8
  rw [show (9 : Int32).toInt = 9 by decide] at a9
  rw [show (10 : Int32).toInt = 10 by decide] at a10
  rw [show (11 : Int32).toInt = 11 by decide] at a11
  rw [show (12 : Int32).toInt = 12 by decide] at a12
  omega
section KL
variable {θ : Th} {p : Program} {l : Launch} {e : Env} {R : Room} {s : State} {m : MethodId} {args : Array Value} {below : List Frame} {meth : Method} {c : Code} {H H0 : Heap} {locs : List Loc} {cells slots : Nat} {Q : State → Prop} {cc : ByteArray} {nL : Nat} {own : String} {ret : Option FieldType} {M M1 : Mm} {pc : Nat} {ls : Array Slot} {rest st : List Value} {y : MethodName} {bytes : ByteArray} {mL n index : Nat} {rm : Room} {As : List Value}
theorem k_sld (C : Cx θ p s m args meth c cc nL own ret) {b L : Nat} {xs : Nat → Int32} (hX : va_X b L xs s s.heap) (hbl : b < s.heap.size) (hθ : θ.1 = s.heap.size) (hS : va_S (tA θ) s.heap H locs) {i x : Int32} (hv : rS L xs i = some x) (hdg : decode cc pc = .ok (.iaload, 1))
    (kk : W p l e R s m args below meth c H locs cells slots Q (F0 m (pc + 1) ls (.int x :: rest))) : W p l e R s m args below meth c H locs cells slots Q (F0 m pc ls (.int i :: .ref b :: rest)) := by
  obtain ⟨h1, h2⟩ := ite_some hv
  subst h2
  exact va_sld C.1 C.2.1 hX hbl (by show ¬ θ.1 ≤ b; rw [hθ]; exact Nat.not_le.mpr hbl) hS h1 hdg kk
theorem kh_i {hh : List (Nat × Nat × Nat × Nat)} {r : Int32} (C : Cx θ p s m args meth c cc nL own ret) (ch : CH y bytes mL hh n) (hl : Cond.methodLink own index y ∈ gw) (hM : Met l y (gwt y bytes mL (some .int) hh) rm (va_Pc As (wX θ M)) (qI θ r M1) 1 6 (tA θ)) (hrm : RX rm R mL)
    (hn : As.length = n) (hsz : ls.size = nL) (hst : st = As.reverse ++ rest) (hcat : (rest.map fun v => v.category).sum ≤ 8) (hdg : decode cc pc = .ok (.invokestatic index, 3)) (hf : cells + 1 ≤ R.cells ∧ slots + 6 ≤ R.slots) (hw : wd θ M H) (Z : zz θ s s.heap) (hS : va_S (tA θ) s.heap H locs)
    (kk : ∀ (H1 : Heap) (locs1 : List Loc), wd θ M1 H1 → va_S (tA θ) s.heap H1 locs1 → W p l e R s m args below meth c H1 locs1 (cells + 1) (slots + 6) Q (F0 m (pc + 3) ls (.int r :: rest))) : W p l e R s m args below meth c H locs cells slots Q (F0 m pc ls st) := by
  have hG : GoodIn gw (gwt y bytes mL (some .int) hh) := fun w hw => by
    have h1 : w ∈ gw := (List.mem_cons.mp hw).elim (fun e => e ▸ ch.1) id
    exact ⟨h1, good_of_word (List.mem_filter.mp h1).2⟩
  have cw : vx_CSW R s args own index y bytes mL (some .int) hh (gwt y bytes mL (some .int) hh) rm 1 6 n :=
    ⟨⟨hrm.1, hrm.2.1, hrm.2.2.1, hrm.2.2.2, pay_in C.2.2.2.2.1 hG, List.mem_cons_self⟩, C.2.2.2.2.1 _ ch.1, C.2.2.2.2.1 _ ch.2.1, ⟨ch.2.2.2.1, ch.2.2.2.2.1⟩, fun sig h => by
      have h2 := ch.2.2.2.2.2
      rw [h] at h2
      exact (Option.some.inj h2).symm, C.2.2.2.2.1 _ hl, C.2.2.2.2.1 _ ch.2.2.1⟩
  exact va_calli (vx_runSW ⟨C.1, C.2.1, C.2.2.1, C.2.2.2.1, C.2.2.2.2.1⟩ hM cw ⟨x_blind, fun U hU hW => ⟨rfl, ⟨va_K.moved hW.alike C.2.2.2.2.2.1, by rw [hU]; exact hw⟩, by rw [hU]; exact (Z.moved hW.alike).kept hS.2.1⟩⟩ rfl hn hsz hst (lv_room hcat) hdg hf) hS (fun q _ h => h) (fun q h => h) (fun r u t H1 locs1 ht hvm hw hB hz hk hS => by
    obtain ⟨rfl, rfl⟩ := hw
    subst ht
    exact kk _ locs1 hB.2 hS)
end KL
set_option maxRecDepth 100000 in
theorem ch_L_begin : CH yL_begin cL_begin 4 [(0, 6, 9, 13)] 3 := ⟨gw_in 251 rfl rfl, gw_in 43 (by decide +kernel) rfl, gw_in 250 (by decide +kernel) rfl, by decide +kernel, by decide +kernel, by decide +kernel⟩
set_option maxRecDepth 100000 in
theorem ch_L_coefficient : CH yL_coefficient cL_coefficient 5 [(0, 7, 10, 19), (0, 7, 14, 13)] 4 := ⟨gw_in 331 rfl rfl, gw_in 43 (by decide +kernel) rfl, gw_in 330 (by decide +kernel) rfl, by decide +kernel, by decide +kernel, by decide +kernel⟩
set_option maxRecDepth 100000 in
theorem ch_L_row : CH yL_row cL_row 5 [(0, 7, 10, 19), (0, 7, 14, 13)] 4 := ⟨gw_in 369 rfl rfl, gw_in 43 (by decide +kernel) rfl, gw_in 368 (by decide +kernel) rfl, by decide +kernel, by decide +kernel, by decide +kernel⟩
set_option maxRecDepth 100000 in
theorem ch_L_want : CH yL_want cL_want 4 [(0, 6, 9, 19), (0, 6, 12, 13)] 3 := ⟨gw_in 384 rfl rfl, gw_in 43 (by decide +kernel) rfl, gw_in 383 (by decide +kernel) rfl, by decide +kernel, by decide +kernel, by decide +kernel⟩
set_option maxRecDepth 100000 in
theorem ch_L_drift : CH yL_drift cL_drift 4 [(0, 6, 9, 19), (0, 6, 12, 13)] 3 := ⟨gw_in 395 rfl rfl, gw_in 43 (by decide +kernel) rfl, gw_in 394 (by decide +kernel) rfl, by decide +kernel, by decide +kernel, by decide +kernel⟩
set_option maxRecDepth 100000 in
theorem ch_L_value : CH yL_value cL_value 4 [(0, 8, 11, 34), (0, 8, 14, 13)] 3 := ⟨gw_in 406 rfl rfl, gw_in 43 (by decide +kernel) rfl, gw_in 405 (by decide +kernel) rfl, by decide +kernel, by decide +kernel, by decide +kernel⟩
set_option maxRecDepth 100000 in
theorem ch_L_point : CH yL_point cL_point 5 [(0, 9, 12, 34), (0, 9, 16, 19), (0, 9, 20, 13)] 4 := ⟨gw_in 454 rfl rfl, gw_in 43 (by decide +kernel) rfl, gw_in 453 (by decide +kernel) rfl, by decide +kernel, by decide +kernel, by decide +kernel⟩
set_option maxRecDepth 100000 in
theorem ch_L_range : CH yL_range cL_range 6 [(0, 11, 14, 34), (0, 11, 18, 19), (0, 11, 22, 13), (0, 11, 26, 44)] 5 := ⟨gw_in 461 rfl rfl, gw_in 43 (by decide +kernel) rfl, gw_in 460 (by decide +kernel) rfl, by decide +kernel, by decide +kernel, by decide +kernel⟩
set_option maxRecDepth 100000 in
theorem ch_L_tight : CH yL_tight cL_tight 4 [(0, 16, 19, 34), (0, 16, 22, 19)] 3 := ⟨gw_in 495 rfl rfl, gw_in 43 (by decide +kernel) rfl, gw_in 494 (by decide +kernel) rfl, by decide +kernel, by decide +kernel, by decide +kernel⟩
set_option maxRecDepth 100000 in
theorem ch_L_conflict : CH yL_conflict cL_conflict 3 [(0, 8, 11, 34)] 2 := ⟨gw_in 507 rfl rfl, gw_in 43 (by decide +kernel) rfl, gw_in 506 (by decide +kernel) rfl, by decide +kernel, by decide +kernel, by decide +kernel⟩
set_option maxRecDepth 100000 in
theorem ch_L_corner : CH yL_corner cL_corner 5 [(0, 9, 12, 19), (0, 9, 16, 13)] 4 := ⟨gw_in 514 rfl rfl, gw_in 43 (by decide +kernel) rfl, gw_in 513 (by decide +kernel) rfl, by decide +kernel, by decide +kernel, by decide +kernel⟩
