section VXC
variable {p : Program} {l : Launch} {e : Env} {R : Room} {s : State} {m : MethodId} {args : Array Value} {below : List Frame} {meth : Method} {c : Code} {H : Heap} {locs : List Loc} {cells slots : Nat} {Q : State → Prop}
variable {mc ms : Nat} {free : Addr → Prop} {A0 A1 : Nat → Prop} {H0 : Heap} {a : Array Value} {pc : Nat} {ls : Array Slot} {st0 rest : List Value}
theorem vx_catch {own name : String} {E : String} {ce : Cell} {q : Addr} (hown : s.vm.findClass own = some m.cls) (pre : List ExceptionTableEntry) (x : ExceptionTableEntry) (suf : List ExceptionTableEntry) (hsplit : c.exceptionTable.toList = pre ++ x :: suf)
    (hpass : ∀ z ∈ pre, covers z pc = false ∨ (z.catchType ≠ 0 ∧ ∃ nm : String, (Cond.classLink own z.catchType nm).before args s = true ∧ va_Nc E nm s)) (hx : covers x pc = true) (h0 : x.catchType ≠ 0)
    (hlink : (Cond.classLink own x.catchType name).before args s = true) (hcast : (Cond.castable E name).before args s = true) (hcell : H[q]? = some ce) (hv : ce.vm = .none) (hcl : s.vm.findClass E = some ce.cls)
    (kk : W p l e R s m args below meth c H locs cells slots Q (F0 m x.handlerPc ls [.ref q])) : vx_W p l e R s m args below meth c H locs cells slots Q (F0 m pc ls rest) q := by
  intro T hT X
  have hpl : e.platform.magicAccessors = ({} : Platform).magicAccessors := by rw [X.admits.platform]
  obtain ⟨c3, c4, hc3, hc4, hasg⟩ := Cond.castable_spec hcast
  cases Option.some.inj (hc3.symm.trans hcl)
  obtain ⟨c5, hc5, hcl5⟩ := Cond.classLink_spec hown hlink e.platform hpl
  cases Option.some.inj (hc4.symm.trans hc5)
  obtain ⟨vm', X', st⟩ := X.thenCaughtThrough q (g := F0 m pc ls rest) rfl (Steps.refl _) (by rw [hT]; exact hcell) (by rw [hv]; rfl) (by obtain ⟨k9, h9, -⟩ := Vm.findClass_spec hcl; exact ⟨k9, h9⟩) pre x suf hsplit
    (fun z hz => by
      rcases hpass z hz with h | ⟨hz0, nm, hl1, hn1⟩
      · exact Or.inl h
      · obtain ⟨c6, hc6, hcl6⟩ := Cond.classLink_spec hown hl1 e.platform hpl
        obtain ⟨a8, b8, h1, h2, h3⟩ := hn1
        cases Option.some.inj (h1.symm.trans hcl)
        cases Option.some.inj (h2.symm.trans hc6)
        exact Or.inr ⟨hz0, _, hcl6, h3⟩) hx (Or.inr ⟨h0, c4, hcl5, hasg⟩)
  obtain ⟨t, a1, b1⟩ := kk (T.setVm vm') hT X'
  exact ⟨t, st.trans a1, b1⟩
end VXC
section KH
variable {θ : Th} {p : Program} {l : Launch} {e : Env} {R : Room} {s : State} {m : MethodId} {args : Array Value} {below : List Frame} {meth : Method} {c : Code} {H H0 : Heap} {locs : List Loc} {cells slots : Nat} {Q : State → Prop} {cc : ByteArray} {nL : Nat} {own : String} {ret : Option FieldType} {M M1 : Mm} {pc : Nat} {ls : Array Slot} {rest st : List Value} {y : MethodName} {bytes : ByteArray} {mL n index : Nat} {rt : Option FieldType} {rm : Room} {As : List Value}
def RX (rm R : Room) (mL : Nat) : Prop := rm.cells = 1 ∧ rm.slots = 6 ∧ rm.frames + 1 ≤ R.frames ∧ 8 + (mL + 11) + rm.locals ≤ R.locals
theorem x_blind {av : List Value} : FrameBlind (va_Pc av (wX θ M)) := fun a U g mk q => ⟨q.1, ⟨va_K.moved (u := U) (U := U.calling g mk a) (Vm.Alike.refl U.vm) q.2.1.1, q.2.1.2⟩, zz.moved (u := U) (U := U.calling g mk a) (Vm.Alike.refl U.vm) q.2.2⟩
theorem kx_run {Qc : Array Value → State → Outcome → State → Prop} {XC : String → State → State → Prop} (C : Cx θ p s m args meth c cc nL own ret) (cf : CF y bytes mL rt n) (cv : CV y) (hl : Cond.methodLink own index y ∈ gw) (hrc : RC 0 y.cls) (hM : vx_Met l y (gws y bytes mL rt) rm (va_Pc (.ref (tad θ 0) :: As) (wX θ M)) Qc XC 1 6 (tA θ)) (hrm : RX rm R mL)
    (hn : As.length = n) (hsz : ls.size = nL) (hst : st = As.reverse ++ .ref (tad θ 0) :: rest) (hcat : (rest.map fun v => v.category).sum ≤ 8) (hdg : decode cc pc = .ok (.invokevirtual index, 3)) (hf : cells + 1 ≤ R.cells ∧ slots + 6 ≤ R.slots) (hw : wd θ M H) (Z : zz θ s s.heap) (hS : va_S (tA θ) s.heap H locs) :
    vx_Run p l e R s m args below meth c H locs cells slots 1 6 (F0 m pc ls st) rest (Qc (.ref (tad θ 0) :: As).toArray) XC (tA θ) := by
  obtain ⟨ci, T, N, fs, h1, h2⟩ := hrc.2 θ M.1
  exact vx_runV ⟨C.1, C.2.1, C.2.2.1, C.2.2.2.1, C.2.2.2.2.1⟩ hM ⟨callB_of n C.2.2.2.2.1 (gws_ok cf.1) rfl hrm.1 hrm.2.1 (C.2.2.2.2.1 _ cf.2.1) (C.2.2.2.2.1 _ hl) cf.2.2 hrm.2.2, C.2.2.2.2.1 _ cv.1, C.2.2.2.2.1 _ cv.2⟩ ⟨x_blind, va_recv C.2.2.2.2.2.1 hw.1 h1 ((wl_o hrc.1).trans h2), fun U hU hW => ⟨rfl, ⟨va_K.moved hW.alike C.2.2.2.2.2.1, by rw [hU]; exact hw⟩, by rw [hU]; exact (Z.moved hW.alike).kept hS.2.1⟩⟩ rfl hn hsz hst (lv_room hcat) hdg hf
theorem kx_l {o : Nat ⊕ Int64} {a : Array Value} (hr : vx_Run p l e R s m args below meth c H locs cells slots 1 6 (F0 m pc ls st) rest (yL θ o M1 a) (xX θ o M1) (tA θ)) (hS : va_S (tA θ) H0 H locs)
    (kx : ∀ (k : Nat) (ce : Cell) (q : Addr) (H1 : Heap) (locs1 : List Loc), o = .inl k → wd θ M1 H1 → va_S (tA θ) H0 H1 locs1 → H1[q]? = some ce → ce.vm = .none → s.vm.findClass (exn k) = some ce.cls → vx_W p l e R s m args below meth c H1 locs1 (cells + 1) (slots + 6) Q (F0 m pc ls rest) q)
    (kk : ∀ (r : Int64) (H1 : Heap) (locs1 : List Loc), o = .inr r → wd θ M1 H1 → va_S (tA θ) H0 H1 locs1 → W p l e R s m args below meth c H1 locs1 (cells + 1) (slots + 6) Q (F0 m (pc + 3) ls (.long r :: rest))) : W p l e R s m args below meth c H locs cells slots Q (F0 m pc ls st) :=
  vx_calll hr hS (fun q _ h => h) (fun q h => h) (fun q _ h => h) (fun E ce q9 u t H1 locs1 ht hvm hu hB hz hk hS hq hv hc => by
    obtain rfl := hu
    obtain ⟨⟨k, ho, rfl⟩, hB⟩ := hB
    subst ht
    exact kx k ce q9 _ locs1 ho hB.2 hS hq hv hc) (fun r u t H1 locs1 ht hvm hw hB hz hk hS => by
    obtain ⟨ho, rfl⟩ := hw
    subst ht
    exact kk r _ locs1 ho hB.2 hS)
theorem kx_i {o : Nat ⊕ Int32} {a : Array Value} (hr : vx_Run p l e R s m args below meth c H locs cells slots 1 6 (F0 m pc ls st) rest (yI θ o M1 a) (xX θ o M1) (tA θ)) (hS : va_S (tA θ) H0 H locs)
    (kx : ∀ (k : Nat) (ce : Cell) (q : Addr) (H1 : Heap) (locs1 : List Loc), o = .inl k → wd θ M1 H1 → va_S (tA θ) H0 H1 locs1 → H1[q]? = some ce → ce.vm = .none → s.vm.findClass (exn k) = some ce.cls → vx_W p l e R s m args below meth c H1 locs1 (cells + 1) (slots + 6) Q (F0 m pc ls rest) q)
    (kk : ∀ (r : Int32) (H1 : Heap) (locs1 : List Loc), o = .inr r → wd θ M1 H1 → va_S (tA θ) H0 H1 locs1 → W p l e R s m args below meth c H1 locs1 (cells + 1) (slots + 6) Q (F0 m (pc + 3) ls (.int r :: rest))) : W p l e R s m args below meth c H locs cells slots Q (F0 m pc ls st) :=
  vx_calli hr hS (fun q _ h => h) (fun q h => h) (fun q _ h => h) (fun E ce q9 u t H1 locs1 ht hvm hu hB hz hk hS hq hv hc => by
    obtain rfl := hu
    obtain ⟨⟨k, ho, rfl⟩, hB⟩ := hB
    subst ht
    exact kx k ce q9 _ locs1 ho hB.2 hS hq hv hc) (fun r u t H1 locs1 ht hvm hw hB hz hk hS => by
    obtain ⟨ho, rfl⟩ := hw
    subst ht
    exact kk r _ locs1 ho hB.2 hS)
theorem kx_v {o : Nat ⊕ Unit} {a : Array Value} (hr : vx_Run p l e R s m args below meth c H locs cells slots 1 6 (F0 m pc ls st) rest (yV θ o M1 a) (xX θ o M1) (tA θ)) (hS : va_S (tA θ) H0 H locs)
    (kx : ∀ (k : Nat) (ce : Cell) (q : Addr) (H1 : Heap) (locs1 : List Loc), o = .inl k → wd θ M1 H1 → va_S (tA θ) H0 H1 locs1 → H1[q]? = some ce → ce.vm = .none → s.vm.findClass (exn k) = some ce.cls → vx_W p l e R s m args below meth c H1 locs1 (cells + 1) (slots + 6) Q (F0 m pc ls rest) q)
    (kk : ∀ (H1 : Heap) (locs1 : List Loc), o = .inr () → wd θ M1 H1 → va_S (tA θ) H0 H1 locs1 → W p l e R s m args below meth c H1 locs1 (cells + 1) (slots + 6) Q (F0 m (pc + 3) ls rest)) : W p l e R s m args below meth c H locs cells slots Q (F0 m pc ls st) :=
  vx_callv hr hS (fun q _ h => h) (fun q h => h) (fun q _ h => h) (fun E ce q9 u t H1 locs1 ht hvm hu hB hz hk hS hq hv hc => by
    obtain rfl := hu
    obtain ⟨⟨k, ho, rfl⟩, hB⟩ := hB
    subst ht
    exact kx k ce q9 _ locs1 ho hB.2 hS hq hv hc) (fun u t H1 locs1 ht hvm hw hB hz hk hS => by
    obtain ⟨ho, rfl⟩ := hw
    subst ht
    exact kk _ locs1 ho hB.2 hS)
theorem h_reti (C : Cx θ p s m args meth c cc nL own (some .int)) (hw : wd θ M H) (hS : va_S (tA θ) s.heap H locs) {r : Int32} (hdg : decode cc pc = .ok (.ireturn, 1)) : W p l e R s m args below meth c H locs 1 6 (MQ below (qI θ r M) args s 1 6 (tA θ)) (F0 m pc ls [.int r]) :=
  W.iret (v := r) C.1 C.2.1 C.2.2.2.2.2.2.1 (fun t ht hW => ⟨⟨r, M, rfl, ⟨rfl, rfl⟩, va_K.moved hW.alike C.2.2.2.2.2.1, by rw [ht]; exact hw⟩, hS.F ht⟩) hS.2.2 hdg C.2.2.2.2.2.2.2
abbrev gwt (y : MethodName) (bytes : ByteArray) (mL : Nat) (rt : Option FieldType) (hh : List (Nat × Nat × Nat × Nat)) : List Cond := Cond.codeWith y bytes mL rt hh :: gw
theorem h_met {av : List Value} {Qc : Array Value → State → Outcome → State → Prop} {hh : List (Nat × Nat × Nat × Nat)} (hy : plainName y.cls = true) (hlen : (lg_sl av).length ≤ mL)
    (body : ∀ (p : Program) (e : Env) (s : State) (m : MethodId) (args : Array Value) (below : List Frame) (meth : Method) (c : Code), Cx θ p s m args meth c bytes mL y.cls rt → zz θ s s.heap → c.exceptionTable.toList = tableOf hh → ∀ ls : Array Slot, lv_has ls mL (lv_args 0 av) → wd θ M s.heap → W p l e rm s m args below meth c s.heap [] 0 0 (MQ below Qc args s 1 6 (tA θ)) (F0 m 0 ls [])) : Met l y (gwt y bytes mL rt hh) rm (va_Pc av (wX θ M)) Qc 1 6 (tA θ) := by
  refine va_MetW (cc := bytes) (maxL := mL) (ret := rt) (hh := hh) hy rfl ?_
  intro p e s m args below meth c s₁ B hml hv
  obtain ⟨rfl, ⟨hK, hw⟩, Z⟩ := hv
  have hts := atoms_spec (ws := gwt y bytes mL rt hh) B.pre
  have htab := vx_table (x := y) B (hts _ List.mem_cons_self)
  have hl := lv_entry av (n := mL) hlen
  rw [lg_entry_eq]
  generalize (lg_sl av ++ List.replicate (mL - (lg_sl av).length) Slot.unset).toArray = ls at hl ⊢
  exact body p e s m _ below meth c ⟨B.exec, B.bytes, hml, findClass_of_methodNamed B.named, fun w h => hts w (List.mem_cons_of_mem _ h), hK, B.returns, B.notSynchronized⟩ Z htab ls hl hw
end KH
