/-! ONE LIST OF WORDS for all methods: the good ones of the tables -/
def gw : List Cond := lw_tbl.filter goodWord
theorem gw_in {w : Cond} (i : Nat) (h : lw_tbl[i]? = some w) (hg : goodWord w = true) : w ∈ gw := List.mem_filter.mpr ⟨List.mem_of_getElem? h, hg⟩
theorem gw_all {ws : List Cond} (h : ∀ w ∈ ws, w ∈ lw_tbl ∧ goodWord w = true) : ∀ w ∈ ws, w ∈ gw := fun w hw => List.mem_filter.mpr (h w hw)
abbrev gws (y : MethodName) (bytes : ByteArray) (mL : Nat) (rt : Option FieldType) : List Cond := Cond.code y bytes mL rt :: gw
theorem gws_ok {y : MethodName} {bytes : ByteArray} {mL : Nat} {rt : Option FieldType} (h : Cond.code y bytes mL rt ∈ gw) : GoodIn gw (gws y bytes mL rt) := fun w hw => by
  have h1 : w ∈ gw := (List.mem_cons.mp hw).elim (fun e => e ▸ h) id
  exact ⟨h1, good_of_word (List.mem_filter.mp h1).2⟩
theorem gin0 : ∀ w ∈ wsX00, w ∈ gw := gw_all (by decide +kernel)
theorem gin1 : ∀ w ∈ wsX10, w ∈ gw := gw_all (by decide +kernel)
theorem gin2 : ∀ w ∈ wsX20, w ∈ gw := gw_all (by decide +kernel)
theorem gin3 : ∀ w ∈ wsX30, w ∈ gw := gw_all (by decide +kernel)
/-- what a walk stands on: the machine, the code, the words, the classes -/
def Cx (θ : Th) (p : Program) (s : State) (m : MethodId) (args : Array Value) (meth : Method) (c : Code) (cc : ByteArray) (nL : Nat) (own : String) (ret : Option FieldType) : Prop :=
  p.tables.exec = Jvm.exec ∧ c.code = cc ∧ c.maxLocals = nL ∧ s.vm.findClass own = some m.cls ∧ (∀ w ∈ gw, w.before args s = true) ∧ va_K θ.2.2.1 vwCl (tys θ) s ∧ meth.sig.returnType = ret ∧ meth.locks = false
/-- what is known of a method that is called -/
def CF (y : MethodName) (bytes : ByteArray) (mL : Nat) (rt : Option FieldType) (n : Nat) : Prop :=
  Cond.code y bytes mL rt ∈ gw ∧ Cond.initialized y.cls ∈ gw ∧ y.cls ≠ "java/lang/invoke/MethodHandle" ∧ y.cls ≠ "java/lang/invoke/VarHandle" ∧ (parseMethodDescriptor y.desc).map (fun d => d.parameters.length) = some n
def CV (y : MethodName) : Prop := Cond.instanceMethod y ∈ gw ∧ Cond.selects y.cls y y ∈ gw
/-- object o of the world is of class C -/
def RC (o : Nat) (C : String) : Prop := o < 4 ∧ ∀ (θ : Th) (I : Nat → Int32), ∃ (ci : Nat) (T : u_T) (N : Nat) (fs : List Value), vwCl[ci]? = some (C, T, N) ∧ (wlo θ I)[o]? = some (tad θ o, .inr (ci, fs))
theorem rc0 : RC 0 RX2 := ⟨by decide, fun _ _ => ⟨2, TX2, 3, _, rfl, rfl⟩⟩
theorem rc1 : RC 1 RX1 := ⟨by decide, fun _ _ => ⟨1, TX1, 7, _, rfl, rfl⟩⟩
theorem rc2 : RC 2 RX0 := ⟨by decide, fun _ _ => ⟨0, TX0, 6, _, rfl, rfl⟩⟩
theorem rc3 : RC 3 RX3 := ⟨by decide, fun _ _ => ⟨3, TX3, 20, _, rfl, rfl⟩⟩
abbrev qI (θ : Th) (r : Int32) (M : Mm) : Array Value → State → Outcome → State → Prop := va_Qi (fun x u => x = r ∧ u = M) (wU θ) (tA θ)
abbrev qL (θ : Th) (r : Int64) (M : Mm) : Array Value → State → Outcome → State → Prop := va_Ql (fun x u => x = r ∧ u = M) (wU θ) (tA θ)
abbrev qV (θ : Th) (M : Mm) : Array Value → State → Outcome → State → Prop := va_Qv (fun u => u = M) (wU θ) (tA θ)
abbrev qR (θ : Th) (r : Nat) (M : Mm) : Array Value → State → Outcome → State → Prop := va_Qr (fun u => u = M) (fun u a t => a = tad θ (22 + r) ∧ wU θ u t) (tA θ)
section KR
variable {θ : Th} {p : Program} {l : Launch} {e : Env} {R : Room} {s : State} {m : MethodId} {args : Array Value} {below : List Frame} {meth : Method} {c : Code} {H H0 : Heap} {locs : List Loc} {cells slots : Nat} {Q : State → Prop} {cc : ByteArray} {nL : Nat} {own : String} {ret : Option FieldType} {M M1 : Mm} {pc : Nat} {ls : Array Slot} {rest st : List Value}
theorem k_iald (C : Cx θ p s m args meth c cc nL own ret) (hw : wd θ M H) (k : Nat) (hk : k < 15) {i x : Int32} (hv : rA M k i = some x) (hdg : decode cc pc = .ok (.iaload, 1))
    (kk : W p l e R s m args below meth c H locs cells slots Q (F0 m (pc + 1) ls (.int x :: rest))) : W p l e R s m args below meth c H locs cells slots Q (F0 m pc ls (.int i :: .ref (tad θ (4 + k)) :: rest)) := by
  obtain ⟨h1, h2⟩ := ite_some hv
  subst h2
  exact va_iald C.1 C.2.1 C.2.2.2.2.2.1 hw.1 (4 + k) 0 (wl_A hk) rfl h1 hdg kk
theorem k_lald (C : Cx θ p s m args meth c cc nL own ret) (hw : wd θ M H) (k : Nat) {i : Int32} {x : Int64} (hv : rL M k i = some x) (hdg : decode cc pc = .ok (.laload, 1))
    (kk : W p l e R s m args below meth c H locs cells slots Q (F0 m (pc + 1) ls (.long x :: rest))) : W p l e R s m args below meth c H locs cells slots Q (F0 m pc ls (.int i :: .ref (tad θ (22 + k)) :: rest)) := by
  obtain ⟨h1, h2⟩ := ite_some hv
  subst h2
  exact va_lald C.1 C.2.1 C.2.2.2.2.2.1 hw.1 (22 + k) 1 (wl_L (lnL_lt (fun q => h1 (Or.inr q)))) rfl h1 hdg kk
theorem k_iast (C : Cx θ p s m args meth c cc nL own ret) (hw : wd θ M H) (hS : va_S (tA θ) H0 H locs) (k : Nat) (hk : k < 15) {i x : Int32} (hv : wA M k i x = some M1) (hdg : decode cc pc = .ok (.iastore, 1))
    (kk : ∀ (H1 : Heap) (locs1 : List Loc), wd θ M1 H1 → va_S (tA θ) H0 H1 locs1 → W p l e R s m args below meth c H1 locs1 cells slots Q (F0 m (pc + 1) ls rest)) : W p l e R s m args below meth c H locs cells slots Q (F0 m pc ls (.int x :: .int i :: .ref (tad θ (4 + k)) :: rest)) := by
  obtain ⟨h1, h2⟩ := ite_some hv
  subst h2
  refine va_iast C.1 C.2.1 C.2.2.2.2.2.1 hw.1 hw.2 hS (4 + k) 0 (wl_A hk) rfl h1 hdg (fun H1 locs1 hP hD hS => kk H1 locs1 ⟨?_, ?_⟩ hS)
  · rw [wl_setA hk] at hP; exact hP
  · rw [wl_setA hk] at hD; exact hD
theorem k_last (C : Cx θ p s m args meth c cc nL own ret) (hw : wd θ M H) (hS : va_S (tA θ) H0 H locs) (k : Nat) {i : Int32} {x : Int64} (hv : wL M k i x = some M1) (hdg : decode cc pc = .ok (.lastore, 1))
    (kk : ∀ (H1 : Heap) (locs1 : List Loc), wd θ M1 H1 → va_S (tA θ) H0 H1 locs1 → W p l e R s m args below meth c H1 locs1 cells slots Q (F0 m (pc + 1) ls rest)) : W p l e R s m args below meth c H locs cells slots Q (F0 m pc ls (.long x :: .int i :: .ref (tad θ (22 + k)) :: rest)) := by
  obtain ⟨h1, h2⟩ := ite_some hv
  subst h2
  have hk : k < 138 := lnL_lt (fun q => h1 (Or.inr q))
  refine va_last C.1 C.2.1 C.2.2.2.2.2.1 hw.1 hw.2 hS (22 + k) 1 (wl_L hk) rfl h1 hdg (fun H1 locs1 hP hD hS => kk H1 locs1 ⟨?_, ?_⟩ hS)
  · rw [wl_setL hk] at hP; exact hP
  · rw [wl_setL hk] at hD; exact hD
theorem k_aald (C : Cx θ p s m args meth c cc nL own ret) (hw : wd θ M H) (k : Nat) (hk : k < 3) {i : Int32} {x : Nat} (hv : rO k i = some x) (hdg : decode cc pc = .ok (.aaload, 1))
    (kk : W p l e R s m args below meth c H locs cells slots Q (F0 m (pc + 1) ls (.ref (tad θ (22 + x)) :: rest))) : W p l e R s m args below meth c H locs cells slots Q (F0 m pc ls (.int i :: .ref (tad θ (19 + k)) :: rest)) := by
  obtain ⟨h1, h2⟩ := ite_some hv
  subst h2
  have hlt : i.toNatClampNeg < lnO k := Nat.not_le.mp fun q => h1 (Or.inr q)
  have ha := hw.1 (19 + k) _ (wl_O hk)
  refine W.aald (v := va_rf ((fun j => if j < lnO k then some (tad θ (22 + (bsO k + j))) else none) i.toNatClampNeg)) (ty := .array .long) C.1 C.2.1 ha ((C.2.2.2.2.2.1.2 2 _ rfl).1 (lnO k) (fun j => va_rf ((fun j => if j < lnO k then some (tad θ (22 + (bsO k + j))) else none) j))) rfl (fun q => by cases q) (by show ¬ (i < 0 ∨ (arrV _ _ _).slots.size ≤ _); rw [arrV_size]; exact h1) (by show (arrV _ _ _).slots[_]? = _; rw [arrV_read _ _ hlt]) rfl rfl hdg ?_
  simp only [if_pos hlt, va_rf]
  exact kk
theorem k_get (C : Cx θ p s m args meth c cc nL own ret) (hw : wd θ M H) {Cn : String} {T : u_T} {N ci index : Nat} (o k : Nat) (ho : o < 4) (hin : ∀ w ∈ u_ws Cn T N, w ∈ gw) {fs : List Value} (he : (wlo θ M.1)[o]? = some (tad θ o, .inr (ci, fs))) (hc : vwCl[ci]? = some (Cn, T, N)) (hk : k < N)
    (hlink : Cond.fieldLink own index (T k).1 (T k).2.1 (T k).2.2.1 ∈ gw) {v : Value} (hv : fs[k]? = some v) (hdg : decode cc pc = .ok (.getfield index, 3))
    (kk : W p l e R s m args below meth c H locs cells slots Q (F0 m (pc + 3) ls (v :: rest))) : W p l e R s m args below meth c H locs cells slots Q (F0 m pc ls (.ref (tad θ o) :: rest)) :=
  va_get C.1 C.2.1 C.2.2.2.2.1 hin C.2.2.2.1 C.2.2.2.2.2.1 hw.1 o ((wl_o ho).trans he) hc k hk (C.2.2.2.2.1 _ hlink) (fun _ h9 => h9) hv hdg kk
theorem k_put (C : Cx θ p s m args meth c cc nL own ret) (hw : wd θ M H) (hS : va_S (tA θ) H0 H locs) {Cn : String} {T : u_T} {N ci index : Nat} (o k j : Nat) (ho : o < 4) (hin : ∀ w ∈ u_ws Cn T N, w ∈ gw) (ty0 : Nat → FieldType) (hty : ∀ k, k < N → parseFieldDescriptor (T k).2.2.1 = some (ty0 k)) (hnm : ∀ a, a < N → ∀ b, b < N → a ≠ b → (T a).2.1 ≠ (T b).2.1)
    {fs : List Value} (he : (wlo θ M.1)[o]? = some (tad θ o, .inr (ci, fs))) (hc : vwCl[ci]? = some (Cn, T, N)) (hk : k < N) (hfin : (T k).2.2.2 = false) (hd : parseFieldDescriptor (T k).2.2.1 = some .int) (hl : k < fs.length) {v : Int32} (hset : (wlo θ M.1).set o (tad θ o, .inr (ci, fs.set k (.int v))) = wlo θ (upd M.1 j v))
    (hlink : Cond.fieldLink own index (T k).1 (T k).2.1 (T k).2.2.1 ∈ gw) (hdg : decode cc pc = .ok (.putfield index, 3))
    (kk : ∀ (H1 : Heap) (locs1 : List Loc), wd θ (wI M j v) H1 → va_S (tA θ) H0 H1 locs1 → W p l e R s m args below meth c H1 locs1 cells slots Q (F0 m (pc + 3) ls rest)) : W p l e R s m args below meth c H locs cells slots Q (F0 m pc ls (.int v :: .ref (tad θ o) :: rest)) := by
  refine va_put (v := .int v) (ty := .int) C.1 C.2.1 C.2.2.2.2.1 hin ty0 hty hnm C.2.2.2.1 C.2.2.2.2.2.1 hw.1 hw.2 hS o ((wl_o ho).trans he) hc k hk (C.2.2.2.2.1 _ hlink) (fun _ h9 => h9) hfin hd rfl rfl hl hdg (fun H1 locs1 hP hD hS => kk H1 locs1 ⟨?_, ?_⟩ hS)
  · rw [wl_setI ho _ hset] at hP; exact hP
  · rw [wl_setI ho _ hset] at hD; exact hD
theorem k_reti (C : Cx θ p s m args meth c cc nL own (some .int)) (hw : wd θ M H) (hS : va_S (tA θ) s.heap H locs) {r : Int32} (hdg : decode cc pc = .ok (.ireturn, 1)) : W p l e R s m args below meth c H locs 0 0 (MQ below (qI θ r M) args s 0 0 (tA θ)) (F0 m pc ls [.int r]) :=
  W.iret (v := r) C.1 C.2.1 C.2.2.2.2.2.2.1 (fun t ht hW => ⟨⟨r, M, rfl, ⟨rfl, rfl⟩, va_K.moved hW.alike C.2.2.2.2.2.1, by rw [ht]; exact hw⟩, hS.F ht⟩) hS.2.2 hdg C.2.2.2.2.2.2.2
theorem k_retz (C : Cx θ p s m args meth c cc nL own (some .boolean)) (hw : wd θ M H) (hS : va_S (tA θ) s.heap H locs) {r : Int32} (hr : r = 0 ∨ r = 1) (hdg : decode cc pc = .ok (.ireturn, 1)) : W p l e R s m args below meth c H locs 0 0 (MQ below (qI θ r M) args s 0 0 (tA θ)) (F0 m pc ls [.int r]) :=
  W.zret (v := r) C.1 C.2.1 C.2.2.2.2.2.2.1 (by rcases hr with rfl | rfl <;> rfl) (fun t ht hW => ⟨⟨r, M, rfl, ⟨rfl, rfl⟩, va_K.moved hW.alike C.2.2.2.2.2.1, by rw [ht]; exact hw⟩, hS.F ht⟩) hS.2.2 hdg C.2.2.2.2.2.2.2
theorem k_retl (C : Cx θ p s m args meth c cc nL own (some .long)) (hw : wd θ M H) (hS : va_S (tA θ) s.heap H locs) {r : Int64} (hdg : decode cc pc = .ok (.lreturn, 1)) : W p l e R s m args below meth c H locs 0 0 (MQ below (qL θ r M) args s 0 0 (tA θ)) (F0 m pc ls [.long r]) :=
  W.lret (v := r) C.1 C.2.1 C.2.2.2.2.2.2.1 (fun t ht hW => ⟨⟨r, M, rfl, ⟨rfl, rfl⟩, va_K.moved hW.alike C.2.2.2.2.2.1, by rw [ht]; exact hw⟩, hS.F ht⟩) hS.2.2 hdg C.2.2.2.2.2.2.2
theorem k_retv (C : Cx θ p s m args meth c cc nL own none) (hw : wd θ M H) (hS : va_S (tA θ) s.heap H locs) (hdg : decode cc pc = .ok (.return_, 1)) : W p l e R s m args below meth c H locs 0 0 (MQ below (qV θ M) args s 0 0 (tA θ)) (F0 m pc ls []) :=
  W.vret C.1 C.2.1 C.2.2.2.2.2.2.1 (fun t ht hW => ⟨⟨M, rfl, rfl, va_K.moved hW.alike C.2.2.2.2.2.1, by rw [ht]; exact hw⟩, hS.F ht⟩) hS.2.2 hdg C.2.2.2.2.2.2.2
theorem k_reta (C : Cx θ p s m args meth c cc nL own (some (.array .long))) (hw : wd θ M H) (hS : va_S (tA θ) s.heap H locs) {r : Nat} (hdg : decode cc pc = .ok (.areturn, 1)) : W p l e R s m args below meth c H locs 0 0 (MQ below (qR θ r M) args s 0 0 (tA θ)) (F0 m pc ls [.ref (tad θ (22 + r))]) :=
  W.aret C.1 C.2.1 C.2.2.2.2.2.2.1 (Or.inr ⟨_, rfl⟩) (Or.inr ⟨_, rfl⟩) (fun t ht hW => ⟨⟨M, _, rfl, rfl, rfl, va_K.moved hW.alike C.2.2.2.2.2.1, by rw [ht]; exact hw⟩, hS.F ht⟩) hS.2.2 hdg C.2.2.2.2.2.2.2
theorem k_blind {av : List Value} : FrameBlind (va_Pc av (wU θ M)) := fun a U g mk q => ⟨q.1, va_K.moved (u := U) (U := U.calling g mk a) (Vm.Alike.refl U.vm) q.2.1, q.2.2⟩
variable {y : MethodName} {bytes : ByteArray} {mL n index o : Nat} {rt : Option FieldType} {rm : Room} {Qc : Array Value → State → Outcome → State → Prop} {As : List Value}
/-- the room that a callee takes -/
def RM (rm R : Room) (mL : Nat) : Prop := rm.cells = 0 ∧ rm.slots = 0 ∧ rm.frames + 1 ≤ R.frames ∧ 8 + (mL + 11) + rm.locals ≤ R.locals
theorem k_cb (C : Cx θ p s m args meth c cc nL own ret) (cf : CF y bytes mL rt n) (hl : Cond.methodLink own index y ∈ gw) (hrm : RM rm R mL) : CallB R s args own index y bytes mL rt (gws y bytes mL rt) rm 0 0 n :=
  callB_of n C.2.2.2.2.1 (gws_ok cf.1) rfl hrm.1 hrm.2.1 (C.2.2.2.2.1 _ cf.2.1) (C.2.2.2.2.1 _ hl) cf.2.2 hrm.2.2
theorem k_runV (C : Cx θ p s m args meth c cc nL own ret) (cf : CF y bytes mL rt n) (cv : CV y) (hl : Cond.methodLink own index y ∈ gw) (hrc : RC o y.cls) (hM : Met l y (gws y bytes mL rt) rm (va_Pc (.ref (tad θ o) :: As) (wU θ M)) Qc 0 0 (tA θ)) (hrm : RM rm R mL)
    (hn : As.length = n) (hsz : ls.size = nL) (hst : st = As.reverse ++ .ref (tad θ o) :: rest) (hcat : (rest.map fun v => v.category).sum ≤ 8) (hdg : decode cc pc = .ok (.invokevirtual index, 3)) (hf : cells ≤ R.cells ∧ slots ≤ R.slots) (hw : wd θ M H) :
    va_Run p l e R s m args below meth c H locs cells slots 0 0 (F0 m pc ls st) rest (Qc (.ref (tad θ o) :: As).toArray) (tA θ) := by
  obtain ⟨ci, T, N, fs, h1, h2⟩ := hrc.2 θ M.1
  exact va_runV ⟨C.1, C.2.1, C.2.2.1, C.2.2.2.1, C.2.2.2.2.1⟩ hM ⟨k_cb C cf hl hrm, C.2.2.2.2.1 _ cv.1, C.2.2.2.2.1 _ cv.2⟩ ⟨k_blind, va_recv C.2.2.2.2.2.1 hw.1 h1 ((wl_o hrc.1).trans h2), fun U hU hW => ⟨rfl, va_K.moved hW.alike C.2.2.2.2.2.1, by rw [hU]; exact hw⟩⟩ rfl hn hsz hst (lv_room hcat) hdg hf
theorem k_runS (C : Cx θ p s m args meth c cc nL own ret) (cf : CF y bytes mL rt n) (cs : Cond.static y ∈ gw) (hl : Cond.methodLink own index y ∈ gw) (hM : Met l y (gws y bytes mL rt) rm (va_Pc As (wU θ M)) Qc 0 0 (tA θ)) (hrm : RM rm R mL)
    (hn : As.length = n) (hsz : ls.size = nL) (hst : st = As.reverse ++ rest) (hcat : (rest.map fun v => v.category).sum ≤ 8) (hdg : decode cc pc = .ok (.invokestatic index, 3)) (hf : cells ≤ R.cells ∧ slots ≤ R.slots) (hw : wd θ M H) :
    va_Run p l e R s m args below meth c H locs cells slots 0 0 (F0 m pc ls st) rest (Qc As.toArray) (tA θ) :=
  va_runS ⟨C.1, C.2.1, C.2.2.1, C.2.2.2.1, C.2.2.2.2.1⟩ hM ⟨k_cb C cf hl hrm, C.2.2.2.2.1 _ cs⟩ ⟨k_blind, fun U hU hW => ⟨rfl, va_K.moved hW.alike C.2.2.2.2.2.1, by rw [hU]; exact hw⟩⟩ rfl hn hsz hst (lv_room hcat) hdg hf
variable {a : Array Value}
theorem k_ci {r : Int32} (hr : va_Run p l e R s m args below meth c H locs cells slots 0 0 (F0 m pc ls st) rest (qI θ r M1 a) (tA θ)) (hS : va_S (tA θ) H0 H locs)
    (kk : ∀ (H1 : Heap) (locs1 : List Loc), wd θ M1 H1 → va_S (tA θ) H0 H1 locs1 → W p l e R s m args below meth c H1 locs1 cells slots Q (F0 m (pc + 3) ls (.int r :: rest))) : W p l e R s m args below meth c H locs cells slots Q (F0 m pc ls st) :=
  va_calli hr hS (fun q _ h => h) (fun q h => h) (fun r u t H1 locs1 ht hvm hw hB hz hk hS => by
    obtain ⟨rfl, rfl⟩ := hw
    subst ht
    exact kk _ locs1 hB.2 hS)
theorem k_cl {r : Int64} (hr : va_Run p l e R s m args below meth c H locs cells slots 0 0 (F0 m pc ls st) rest (qL θ r M1 a) (tA θ)) (hS : va_S (tA θ) H0 H locs)
    (kk : ∀ (H1 : Heap) (locs1 : List Loc), wd θ M1 H1 → va_S (tA θ) H0 H1 locs1 → W p l e R s m args below meth c H1 locs1 cells slots Q (F0 m (pc + 3) ls (.long r :: rest))) : W p l e R s m args below meth c H locs cells slots Q (F0 m pc ls st) :=
  va_calll hr hS (fun q _ h => h) (fun q h => h) (fun r u t H1 locs1 ht hvm hw hB hz hk hS => by
    obtain ⟨rfl, rfl⟩ := hw
    subst ht
    exact kk _ locs1 hB.2 hS)
theorem k_cv (hr : va_Run p l e R s m args below meth c H locs cells slots 0 0 (F0 m pc ls st) rest (qV θ M1 a) (tA θ)) (hS : va_S (tA θ) H0 H locs)
    (kk : ∀ (H1 : Heap) (locs1 : List Loc), wd θ M1 H1 → va_S (tA θ) H0 H1 locs1 → W p l e R s m args below meth c H1 locs1 cells slots Q (F0 m (pc + 3) ls rest)) : W p l e R s m args below meth c H locs cells slots Q (F0 m pc ls st) :=
  va_callv hr hS (fun q _ h => h) (fun q h => h) (fun u t H1 locs1 ht hvm hw hB hz hk hS => by
    obtain rfl := hw
    subst ht
    exact kk _ locs1 hB.2 hS)
theorem k_cr {r : Nat} (hr : va_Run p l e R s m args below meth c H locs cells slots 0 0 (F0 m pc ls st) rest (qR θ r M1 a) (tA θ)) (hS : va_S (tA θ) H0 H locs)
    (kk : ∀ (H1 : Heap) (locs1 : List Loc), wd θ M1 H1 → va_S (tA θ) H0 H1 locs1 → W p l e R s m args below meth c H1 locs1 cells slots Q (F0 m (pc + 3) ls (.ref (tad θ (22 + r)) :: rest))) : W p l e R s m args below meth c H locs cells slots Q (F0 m pc ls st) :=
  va_callr hr hS (fun q _ h => h) (fun q h => h) (fun u ra t H1 locs1 ht hvm hw hB hz hk hS => by
    obtain rfl := hw
    obtain ⟨rfl, hB⟩ := hB
    subst ht
    exact kk _ locs1 hB.2 hS)
end KR
