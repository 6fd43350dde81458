/-! METHODS THAT THROW -/
def exn (k : Nat) : String := if k = 0 then "java/lang/IllegalArgumentException" else if k = 1 then "java/lang/IllegalStateException" else if k = 2 then "java/lang/IndexOutOfBoundsException" else "java/lang/UnsupportedOperationException"
abbrev exns : List String := ["java/lang/RuntimeException", "java/lang/Exception"]
/-- words of a throw that aren't good ones: they ride with the world -/
def bw : List Cond := [.declares (Bundle.init0 "java/lang/RuntimeException"), .declares (Bundle.init0 "java/lang/Exception"), .declares (Bundle.init0 "java/lang/Throwable"), .castable (exn 0) (exn 0), .castable (exn 1) (exn 1), .castable (exn 2) (exn 2), .castable (exn 3) (exn 3)]
abbrev ncs : List (Nat × Nat) := [(2, 1), (0, 1), (0, 2), (3, 1), (3, 2), (3, 0)]
/-- what a throw takes of the world: two statics of Throwable, and words -/
def zz (θ : Th) (U : State) (H : Heap) : Prop := vx_Zq Bundle.tN "UNASSIGNED_STACK" Bundle.steD (tA θ) U H ∧ vx_Zq Bundle.tN "SUPPRESSED_SENTINEL" Bundle.listD (tA θ) U H ∧ (∀ w ∈ bw, w.before #[] U = true) ∧ ∀ q ∈ ncs, va_Nc (exn q.1) (exn q.2) U
theorem bw_moved {u U : State} (hvm : u.vm.Alike U.vm) : ∀ w ∈ bw, w.before #[] u = true → w.before #[] U = true := by
  intro w hw h
  have hU : U.setVm U.vm = U := rfl
  have e : w.onTables = true → w.before #[] (u.setVm U.vm) = w.before #[] U := fun hc => by
    have e := Cond.onTables_vm (A := #[]) (A' := #[]) (U := u) (U' := U) U.vm w hc
    rw [hU] at e
    exact e
  have hD : ∀ y, w = .declares y → w.before #[] U = true := fun y hy => by
    rw [← e (by rw [hy]; rfl)]
    subst hy
    rw [Cond.declares_setVm hvm]
    exact h
  have hC : ∀ a b, w = .castable a b → w.before #[] U = true := fun a b hy => by
    rw [← e (by rw [hy]; rfl)]
    subst hy
    rw [Cond.castable_setVm hvm]
    exact h
  simp only [bw, List.mem_cons, List.not_mem_nil, or_false] at hw
  rcases hw with h | h | h | h | h | h | h
  · exact hD _ h
  · exact hD _ h
  · exact hD _ h
  · exact hC _ _ h
  · exact hC _ _ h
  · exact hC _ _ h
  · exact hC _ _ h
theorem bw_any {w : Cond} (hw : w ∈ bw) {U : State} {A : Array Value} (h : w.before #[] U = true) : w.before A U = true := va_any (by
  simp only [bw, List.mem_cons, List.not_mem_nil, or_false] at hw
  rcases hw with h | h | h | h | h | h | h <;> (subst h; rfl)) h
theorem zz.moved {θ : Th} {u U : State} {H : Heap} (hvm : u.vm.Alike U.vm) (h : zz θ u H) : zz θ U H := ⟨h.1.moved hvm, h.2.1.moved hvm, fun w hw => bw_moved hvm w hw (h.2.2.1 w hw), fun q hq => (h.2.2.2 q hq).moved hvm⟩
theorem zz.kept {θ : Th} {U : State} {H H1 : Heap} (h : zz θ U H) (hq : ∀ a : Nat, a < H.size → ¬ tA θ a → H1[a]? = H[a]?) : zz θ U H1 := ⟨h.1.kept hq, h.2.1.kept hq, h.2.2⟩
def wX (θ : Th) (M : Mm) (U : State) : Prop := wU θ M U ∧ zz θ U U.heap
/-- the answers of a method that throws: .inl k: it threw exception k; .inr r: it answered r -/
abbrev yI (θ : Th) (o : Nat ⊕ Int32) (M : Mm) : Array Value → State → Outcome → State → Prop := va_Qi (fun x u => o = .inr x ∧ u = M) (wU θ) (tA θ)
abbrev yL (θ : Th) (o : Nat ⊕ Int64) (M : Mm) : Array Value → State → Outcome → State → Prop := va_Ql (fun x u => o = .inr x ∧ u = M) (wU θ) (tA θ)
abbrev yV (θ : Th) (o : Nat ⊕ Unit) (M : Mm) : Array Value → State → Outcome → State → Prop := va_Qv (fun u => o = .inr () ∧ u = M) (wU θ) (tA θ)
abbrev xX {ρ : Type} (θ : Th) (o : Nat ⊕ ρ) (M : Mm) : String → State → State → Prop := vx_X (fun u => u = M) (fun E u t => (∃ k, o = .inl k ∧ E = exn k) ∧ wU θ u t) (tA θ)
/-- what 'throw new E()' at these places of the pool takes of the words -/
def TH (own : String) (ik ic k : Nat) : Prop :=
  Bundle.fit (exn k) = true ∧ (∀ n ∈ exns, Bundle.fit n = true) ∧ Cond.classLink own ik (exn k) ∈ gw ∧ Cond.initialized (exn k) ∈ gw ∧ (∀ w ∈ (vx_at0 own ic (exn k) exns).filter goodWord, w ∈ gw) ∧ (∀ w ∈ (vx_at0 own ic (exn k) exns).filter (fun w => !goodWord w), w ∈ bw) ∧ (∀ w ∈ Cond.classLink own ik (exn k) :: Cond.initialized (exn k) :: vx_at0 own ic (exn k) exns, vx_ot w = true)
section KX
variable {θ : Th} {p : Program} {l : Launch} {e : Env} {R : Room} {s : State} {m : MethodId} {args : Array Value} {below : List Frame} {meth : Method} {c : Code} {H H0 : Heap} {locs : List Loc} {cells slots : Nat} {Q : State → Prop} {cc : ByteArray} {nL : Nat} {own : String} {ret : Option FieldType} {M M1 : Mm} {pc : Nat} {ls : Array Slot} {rest st : List Value}
theorem k_throw {ρ : Type} {Qc : Array Value → State → Outcome → State → Prop} (C : Cx θ p s m args meth c cc nL own ret) (hl : l.stackTraces = false) (Z : zz θ s s.heap) (htab : ∀ x ∈ c.exceptionTable.toList, False) (hw : wd θ M H) (hS : va_S (tA θ) s.heap H locs) {k ik ic : Nat} (hT : TH own ik ic k) (hsz : ls.size = nL)
    (d0 : decode cc pc = .ok (.new ik, 3)) (d3 : decode cc (pc + 3) = .ok (.dup, 1)) (d4 : decode cc (pc + 4) = .ok (.invokespecial ic, 3)) (d7 : decode cc (pc + 7) = .ok (.athrow, 1))
    (hR : 5 < R.frames ∧ (rest.map fun v => v.category).sum + 81 ≤ R.locals ∧ 1 ≤ R.cells ∧ 6 ≤ R.slots) : W p l e R s m args below meth c H locs 0 0 (vx_MQ below Qc (xX θ (.inl k : Nat ⊕ ρ) M) args s 1 6 (tA θ)) (F0 m pc ls rest) := by
  obtain ⟨t1, t2, t3, t4, t5, t6, t7⟩ := hT
  refine vx_throw0 C.1 C.2.1 hl (own := own) (cls := exn k) (names := exns) (ik := ik) (ic := ic) (A := tA θ) C.2.2.2.1 t1 t2 (C.2.2.2.2.1 _ t3) (C.2.2.2.2.1 _ t4) ?_ t7 Z.1 Z.2.1 hS (hsz.trans C.2.2.1.symm) d0 d3 d4 d7 (fun x hx => (htab x hx).elim) hR.1 hR.2.1 (by have := hR.2.2.1; omega) (by have := hR.2.2.2; omega) C.2.2.2.2.2.2.2 ?_ hS.2.2 (Nat.le_refl _) (Nat.le_refl _)
  · exact vx_hat (B := bw) (fun w hw => C.2.2.2.2.1 w (t5 w hw)) t6 (fun w hw => bw_any hw (Z.2.2.1 w hw))
  · intro t hvm hz hk
    exact ⟨M, rfl, ⟨⟨k, rfl, rfl⟩, va_K.moved hvm C.2.2.2.2.2.1, ⟨hw.1.kept (fun i q hq => hk q.1 ((hw.1 i q hq).lt)), hw.2⟩⟩, Nat.le_trans hS.1 hz, fun q h1 h2 => (hk q (Nat.lt_of_lt_of_le h1 hS.1)).trans (hS.2.1 q h1 h2)⟩
theorem x_reti (C : Cx θ p s m args meth c cc nL own (some .int)) (hw : wd θ M H) (hS : va_S (tA θ) s.heap H locs) {r : Int32} (hdg : decode cc pc = .ok (.ireturn, 1)) : W p l e R s m args below meth c H locs 0 0 (vx_MQ below (yI θ (.inr r) M) (xX θ (.inr r : Nat ⊕ Int32) M) args s 1 6 (tA θ)) (F0 m pc ls [.int r]) :=
  vx_ret (W.widen (k := 1) (n := 6) (Nat.zero_le _) (Nat.zero_le _) (W.iret (v := r) C.1 C.2.1 C.2.2.2.2.2.2.1 (fun t ht hW => ⟨⟨r, M, rfl, ⟨rfl, rfl⟩, va_K.moved hW.alike C.2.2.2.2.2.1, by rw [ht]; exact hw⟩, hS.F ht⟩) hS.2.2 hdg C.2.2.2.2.2.2.2))
theorem x_retz (C : Cx θ p s m args meth c cc nL own (some .boolean)) (hw : wd θ M H) (hS : va_S (tA θ) s.heap H locs) {r : Int32} (hr : r = 0 ∨ r = 1) (hdg : decode cc pc = .ok (.ireturn, 1)) : W p l e R s m args below meth c H locs 0 0 (vx_MQ below (yI θ (.inr r) M) (xX θ (.inr r : Nat ⊕ Int32) M) args s 1 6 (tA θ)) (F0 m pc ls [.int r]) :=
  vx_ret (W.widen (k := 1) (n := 6) (Nat.zero_le _) (Nat.zero_le _) (W.zret (v := r) C.1 C.2.1 C.2.2.2.2.2.2.1 (by rcases hr with rfl | rfl <;> rfl) (fun t ht hW => ⟨⟨r, M, rfl, ⟨rfl, rfl⟩, va_K.moved hW.alike C.2.2.2.2.2.1, by rw [ht]; exact hw⟩, hS.F ht⟩) hS.2.2 hdg C.2.2.2.2.2.2.2))
theorem x_retl (C : Cx θ p s m args meth c cc nL own (some .long)) (hw : wd θ M H) (hS : va_S (tA θ) s.heap H locs) {r : Int64} (hdg : decode cc pc = .ok (.lreturn, 1)) : W p l e R s m args below meth c H locs 0 0 (vx_MQ below (yL θ (.inr r) M) (xX θ (.inr r : Nat ⊕ Int64) M) args s 1 6 (tA θ)) (F0 m pc ls [.long r]) :=
  vx_ret (W.widen (k := 1) (n := 6) (Nat.zero_le _) (Nat.zero_le _) (W.lret (v := r) C.1 C.2.1 C.2.2.2.2.2.2.1 (fun t ht hW => ⟨⟨r, M, rfl, ⟨rfl, rfl⟩, va_K.moved hW.alike C.2.2.2.2.2.1, by rw [ht]; exact hw⟩, hS.F ht⟩) hS.2.2 hdg C.2.2.2.2.2.2.2))
theorem x_retv (C : Cx θ p s m args meth c cc nL own none) (hw : wd θ M H) (hS : va_S (tA θ) s.heap H locs) (hdg : decode cc pc = .ok (.return_, 1)) : W p l e R s m args below meth c H locs 0 0 (vx_MQ below (yV θ (.inr ()) M) (xX θ (.inr () : Nat ⊕ Unit) M) args s 1 6 (tA θ)) (F0 m pc ls []) :=
  vx_ret (W.widen (k := 1) (n := 6) (Nat.zero_le _) (Nat.zero_le _) (W.vret C.1 C.2.1 C.2.2.2.2.2.2.1 (fun t ht hW => ⟨⟨M, rfl, ⟨rfl, rfl⟩, va_K.moved hW.alike C.2.2.2.2.2.1, by rw [ht]; exact hw⟩, hS.F ht⟩) hS.2.2 hdg C.2.2.2.2.2.2.2))
end KX
theorem x_met {θ : Th} {l : Launch} {M : Mm} {y : MethodName} {bytes : ByteArray} {mL : Nat} {rt : Option FieldType} {rm : Room} {av : List Value} {Qc : Array Value → State → Outcome → State → Prop} {XC : String → State → State → Prop} (hy : plainName y.cls = true) (hlen : (lg_sl av).length ≤ mL)
    (body : ∀ (p : Program) (e : Env) (s : State) (m : MethodId) (args : Array Value) (below : List Frame) (meth : Method) (c : Code), Cx θ p s m args meth c bytes mL y.cls rt → zz θ s s.heap → (∀ x ∈ c.exceptionTable.toList, False) → ∀ ls : Array Slot, lv_has ls mL (lv_args 0 av) → wd θ M s.heap → W p l e rm s m args below meth c s.heap [] 0 0 (vx_MQ below Qc XC args s 1 6 (tA θ)) (F0 m 0 ls [])) : vx_Met l y (gws y bytes mL rt) rm (va_Pc av (wX θ M)) Qc XC 1 6 (tA θ) := by
  refine vx_ofW (cc := bytes) (maxL := mL) (ret := rt) hy rfl ?_
  intro p e s m args below meth c s₁ B hml htab hv
  obtain ⟨rfl, ⟨hK, hw⟩, Z⟩ := hv
  have hts := atoms_spec (ws := gws y bytes mL rt) B.pre
  have hl := lv_entry av (n := mL) hlen
  rw [lg_entry_eq]
  generalize (lg_sl av ++ List.replicate (mL - (lg_sl av).length) Slot.unset).toArray = ls at hl ⊢
  exact body p e s m _ below meth c ⟨B.exec, B.bytes, hml, findClass_of_methodNamed B.named, fun w h => hts w (List.mem_cons_of_mem _ h), hK, B.returns, B.notSynchronized⟩ Z htab ls hl hw
