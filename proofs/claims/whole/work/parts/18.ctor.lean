/-- arrays over long[] can be made (the printed row names it va_AOA; no text of the kit defines it) -/
def va_AOA (ty : FieldType) (U : State) : Prop := (Cond.arrayOver (.array ty)).before #[] U = true
theorem va_AOA.use {ty : FieldType} {A : Array Value} {U : State} (h : va_AOA ty U) : (Cond.arrayOver (.array ty)).before A U = true := h
theorem va_AOA.of {ty : FieldType} {A : Array Value} {U : State} (h : (Cond.arrayOver (.array ty)).before A U = true) : va_AOA ty U := h
theorem va_AOA.moved {C : FieldType} {u U : State} (hvm : u.vm.Alike U.vm) (h : va_AOA C u) : va_AOA C U := by
  obtain ⟨comp, c, k, h1, h2, h3, h4, h5⟩ := arrayOverA_spec h
  obtain ⟨k', hk', he⟩ := hvm.2.2 _ _ h3
  have hi : (U.vm.classes.findIdx? fun (x : Class) => match x.kind with | .array component _ => component == comp | _ => false) = some c := by
    have hbe : U.vm.bare = u.vm.bare := by first | exact hvm.bare_eq | exact hvm.bare_eq.symm
    have e1 := va_idx_bare U.vm comp
    have e2 := va_idx_bare u.vm comp
    rw [hbe] at e1
    exact (e1.symm.trans e2).trans h2
  have hkind : k'.kind = .array comp (.array C) := by rw [he]; exact h4
  have f1 : U.vm.findClass (FieldType.array C).toString = some comp := by rw [hvm.findClass]; exact h1
  have f2 : U.vm.findClass ("[" ++ (FieldType.array C).toString) = some c := by rw [hvm.findClass]; exact h5
  unfold va_AOA Cond.before Cond.holds
  simp only [Cond.value]
  rw [f1, Option.bind_some]
  refine (congrArg (fun o : Option Nat => (o.bind (fun c => (U.vm.classes[c]?).map fun (k : Class) => match k.kind with | .array _ ty => decide (ty = FieldType.array C) && decide (U.vm.findClass ("[" ++ (FieldType.array C).toString) = some c) | _ => false) == some true)) hi).trans ?_
  simp [hk', hkind, f2]
/-! CONSTRUCTORS: the object h0 of class ci behind the cells ws, what it has made behind it -/
def cl (ws : va_W) (h0 ci : Nat) (fs : List Value) (tl : va_W) : va_W := ws ++ ((h0, .inr (ci, fs)) :: tl)
def cd (θ : Th) (ws : va_W) (h0 ci : Nat) (fs : List Value) (tl : va_W) (H : Heap) : Prop := va_P θ.2.2.1 vwCl (cl ws h0 ci fs tl) H ∧ va_D (tA θ) (cl ws h0 ci fs tl)
theorem cl_at {ws : va_W} {h0 ci : Nat} {fs : List Value} {tl : va_W} : (cl ws h0 ci fs tl)[ws.length]? = some (h0, .inr (ci, fs)) := by
  unfold cl
  rw [List.getElem?_append_right (Nat.le_refl _), Nat.sub_self]
  rfl
theorem cl_set {ws : va_W} {h0 ci : Nat} {fs fs' : List Value} {tl : va_W} : (cl ws h0 ci fs tl).set ws.length (h0, .inr (ci, fs')) = cl ws h0 ci fs' tl := by
  unfold cl
  rw [List.set_append_right _ _ (Nat.le_refl _), Nat.sub_self]
  rfl
theorem cl_app {ws : va_W} {h0 ci : Nat} {fs : List Value} {tl l : va_W} : cl ws h0 ci fs tl ++ l = cl ws h0 ci fs (tl ++ l) := by
  unfold cl
  rw [List.append_assoc]
  rfl
abbrev nwI (θ : Th) (q n : Nat) : Nat × va_E := (q, .inl (θ.2.1.1, n, .inl (fun _ => 0)))
abbrev nwJ (θ : Th) (q n : Nat) : Nat × va_E := (q, .inl (θ.2.1.2.1, n, .inr (.inl (fun _ => 0))))
abbrev nwO (θ : Th) (q : Nat) (r : Nat → Nat) (n : Nat) : Nat × va_E := (q, .inl (θ.2.1.2.2, n, .inr (.inr (.inr (.inr (fun i => if i < n then some (r i) else none))))))
abbrev nwR (θ : Th) (r : Nat → Nat) (n k : Nat) : va_W := (List.range n).map (fun i => (r i, .inl (θ.2.1.2.1, k, .inr (.inl (fun _ => 0)))))
theorem cl_in {ws : va_W} {h0 ci h1 cj : Nat} {fs gs : List Value} {t0 tl : va_W} : cl (ws ++ ((h0, .inr (ci, fs)) :: t0)) h1 cj gs tl = cl ws h0 ci fs (t0 ++ ((h1, .inr (cj, gs)) :: tl)) := by
  unfold cl
  rw [List.append_assoc]
  rfl
theorem cd_in {θ : Th} {ws : va_W} {h0 ci h1 cj : Nat} {fs gs : List Value} {t0 tl : va_W} {H : Heap} : cd θ (ws ++ ((h0, .inr (ci, fs)) :: t0)) h1 cj gs tl H ↔ cd θ ws h0 ci fs (t0 ++ ((h1, .inr (cj, gs)) :: tl)) H := by
  unfold cd
  rw [cl_in]
section KC
variable {θ : Th} {p : Program} {l : Launch} {e : Env} {R : Room} {s : State} {m : MethodId} {args : Array Value} {below : List Frame} {meth : Method} {c : Code} {H H0 : Heap} {locs : List Loc} {cells slots : Nat} {Q : State → Prop} {cc : ByteArray} {nL : Nat} {own : String} {ret : Option FieldType} {pc : Nat} {ls : Array Slot} {rest : List Value} {ws tl : va_W} {h0 ci : Nat} {fs : List Value}
theorem n_put (C : Cx θ p s m args meth c cc nL own ret) (hcd : cd θ ws h0 ci fs tl H) (hS : va_S (tA θ) H0 H locs) {Cn : String} {T : u_T} {N index : Nat} (k : Nat) (hin : ∀ w ∈ u_ws Cn T N, w ∈ gw) (ty0 : Nat → FieldType) (hty : ∀ k, k < N → parseFieldDescriptor (T k).2.2.1 = some (ty0 k)) (hnm : ∀ a, a < N → ∀ b, b < N → a ≠ b → (T a).2.1 ≠ (T b).2.1) (hc : vwCl[ci]? = some (Cn, T, N)) (hk : k < N)
    (hf : (T k).2.2.2 = false ∨ ((T k).2.2.2 = true ∧ meth.name = "<init>" ∧ (T k).1 = own)) {ty : FieldType} {v : Value} (hd : parseFieldDescriptor (T k).2.2.1 = some ty) (hn : narrow ty v = v) (hfit : fits ty v = true) (hl : k < fs.length) (hlink : Cond.fieldLink own index (T k).1 (T k).2.1 (T k).2.2.1 ∈ gw) (hdg : decode cc pc = .ok (.putfield index, 3))
    (kk : ∀ (H1 : Heap) (locs1 : List Loc), cd θ ws h0 ci (fs.set k v) tl H1 → va_S (tA θ) H0 H1 locs1 → W p l e R s m args below meth c H1 locs1 cells slots Q (F0 m (pc + 3) ls rest)) : W p l e R s m args below meth c H locs cells slots Q (F0 m pc ls (v :: .ref h0 :: rest)) := by
  rcases hf with hf | ⟨hf, hi, hdc⟩
  · refine va_put (v := v) (ty := ty) C.1 C.2.1 C.2.2.2.2.1 hin ty0 hty hnm C.2.2.2.1 C.2.2.2.2.2.1 hcd.1 hcd.2 hS ws.length cl_at hc k hk (C.2.2.2.2.1 _ hlink) (fun _ h9 => h9) hf hd hn hfit hl hdg (fun H1 locs1 hP hD hS => kk H1 locs1 ⟨?_, ?_⟩ hS)
    · rw [cl_set] at hP; exact hP
    · rw [cl_set] at hD; exact hD
  · refine va_putF (v := v) (ty := ty) C.1 C.2.1 C.2.2.2.2.1 hin ty0 hty hnm C.2.2.2.1 C.2.2.2.2.2.1 hcd.1 hcd.2 hS ws.length cl_at hc k hk (C.2.2.2.2.1 _ hlink) (fun _ h9 => h9) hf hi hdc hd hn hfit hl hdg (fun H1 locs1 hP hD hS => kk H1 locs1 ⟨?_, ?_⟩ hS)
    · rw [cl_set] at hP; exact hP
    · rw [cl_set] at hD; exact hD
theorem n_newI (C : Cx θ p s m args meth c cc nL own ret) (harr : Cond.arrayClass .int ∈ gw) (hcd : cd θ ws h0 ci fs tl H) (hS : va_S (tA θ) H0 H locs) (hA : θ.1 ≤ H0.size) {n : Int32} (N' : Nat) (hn : ¬ n < 0) (hN : n.toNatClampNeg = N') (hb : N' ≤ 100000) (hcells : cells + 1 ≤ R.cells) (hslots : slots + N' ≤ R.slots) (hdg : decode cc pc = .ok (.newarray .int, 2))
    (kk : ∀ (q : Nat) (H1 : Heap), cd θ ws h0 ci fs (tl ++ [nwI θ q N']) H1 → va_S (tA θ) H0 H1 locs → W p l e R s m args below meth c H1 locs (cells + 1) (slots + N') Q (F0 m (pc + 2) ls (.ref q :: rest))) : W p l e R s m args below meth c H locs cells slots Q (F0 m pc ls (.int n :: rest)) := by
  refine va_newa (atype := .int) (ty := .int) (a0 := (N', .inl (fun _ => 0))) C.1 C.2.1 (C.2.2.2.2.1 _ harr) rfl C.2.2.2.2.2.1 hcd.1 hcd.2 hS (fun q h => Nat.le_trans hA h) (fun cA => rfl) hn hN (by show N' * 4 ≤ _; omega) hcells hslots hdg (fun q cA H1 hK1 hP1 hD1 hS1 => ?_)
  have e1 : s.vm.findClass ("[" ++ FieldType.int.toString) = some cA := (hK1.2 3 _ rfl).2
  have e2 : s.vm.findClass ("[" ++ FieldType.int.toString) = some θ.2.1.1 := (C.2.2.2.2.2.1.2 0 _ rfl).2
  cases Option.some.inj (e1.symm.trans e2)
  rw [cl_app] at hP1 hD1
  exact kk q H1 ⟨hP1, hD1⟩ hS1
theorem n_newJ (C : Cx θ p s m args meth c cc nL own ret) (harr : Cond.arrayClass .long ∈ gw) (hcd : cd θ ws h0 ci fs tl H) (hS : va_S (tA θ) H0 H locs) (hA : θ.1 ≤ H0.size) {n : Int32} (N' : Nat) (hn : ¬ n < 0) (hN : n.toNatClampNeg = N') (hb : N' ≤ 100000) (hcells : cells + 1 ≤ R.cells) (hslots : slots + N' ≤ R.slots) (hdg : decode cc pc = .ok (.newarray .long, 2))
    (kk : ∀ (q : Nat) (H1 : Heap), cd θ ws h0 ci fs (tl ++ [nwJ θ q N']) H1 → va_S (tA θ) H0 H1 locs → W p l e R s m args below meth c H1 locs (cells + 1) (slots + N') Q (F0 m (pc + 2) ls (.ref q :: rest))) : W p l e R s m args below meth c H locs cells slots Q (F0 m pc ls (.int n :: rest)) := by
  refine va_newa (atype := .long) (ty := .long) (a0 := (N', .inr (.inl (fun _ => 0)))) C.1 C.2.1 (C.2.2.2.2.1 _ harr) rfl C.2.2.2.2.2.1 hcd.1 hcd.2 hS (fun q h => Nat.le_trans hA h) (fun cA => rfl) hn hN (by show N' * 8 ≤ _; omega) hcells hslots hdg (fun q cA H1 hK1 hP1 hD1 hS1 => ?_)
  have e1 : s.vm.findClass ("[" ++ FieldType.long.toString) = some cA := (hK1.2 3 _ rfl).2
  have e2 : s.vm.findClass ("[" ++ FieldType.long.toString) = some θ.2.1.2.1 := (C.2.2.2.2.2.1.2 1 _ rfl).2
  cases Option.some.inj (e1.symm.trans e2)
  rw [cl_app] at hP1 hD1
  exact kk q H1 ⟨hP1, hD1⟩ hS1
end KC
/-- a constructor's body: its own object at h0, behind ws -/
theorem n_met {θ : Th} {l : Launch} {ws : va_W} {h0 ci : Nat} {fs : List Value} {y : MethodName} {bytes : ByteArray} {rm : Room} {Qc : Array Value → State → Outcome → State → Prop} {mc ms : Nat} (hy : plainName y.cls = true) (hi : y.name = "<init>")
    (body : ∀ (p : Program) (e : Env) (s : State) (m : MethodId) (args : Array Value) (below : List Frame) (meth : Method) (c : Code), Cx θ p s m args meth c bytes 1 y.cls none → meth.name = "<init>" → θ.1 ≤ s.heap.size → va_AOA .long s → ∀ ls : Array Slot, lv_has ls 1 [(0, .ref h0)] → cd θ ws h0 ci fs [] s.heap → W p l e rm s m args below meth c s.heap [] 0 0 (MQ below Qc args s mc ms (tA θ)) (F0 m 0 ls [])) : Met l y (gws y bytes 1 none) rm (va_Pc [.ref h0] (fun U => va_K θ.2.2.1 vwCl (tys θ) U ∧ θ.1 ≤ U.heap.size ∧ va_AOA .long U ∧ cd θ ws h0 ci fs [] U.heap)) Qc mc ms (tA θ) := by
  refine Met.ofW (cc := bytes) (maxL := 1) (ret := none) hy rfl ?_
  intro p e s m args below meth c s₁ B hml hv
  obtain ⟨rfl, hK, hz, hov, hw⟩ := hv
  have hts := atoms_spec (ws := gws y bytes 1 none) B.pre
  have hl := lv_entry [.ref h0] (n := 1) (Nat.le_of_ble_eq_true rfl)
  rw [lg_entry_eq]
  generalize (lg_sl [.ref h0] ++ List.replicate (1 - (lg_sl [.ref h0]).length) Slot.unset).toArray = ls at hl ⊢
  exact body p e s m _ below meth c ⟨B.exec, B.bytes, hml, findClass_of_methodNamed B.named, fun w h => hts w (List.mem_cons_of_mem _ h), hK, B.returns, B.notSynchronized⟩ (by rw [← hi]; exact (name_of_methodNamed B.named B.method).1) hz hov ls hl hw
