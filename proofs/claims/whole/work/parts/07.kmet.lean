theorem it_t {α : Type} {c : Prop} [Decidable c] {a b r : α} (hc : c) (h : (if c then a else b) = r) : a = r := by rw [if_pos hc] at h; exact h
theorem it_f {α : Type} {c : Prop} [Decidable c] {a b r : α} (hc : ¬ c) (h : (if c then a else b) = r) : b = r := by rw [if_neg hc] at h; exact h
theorem it_n {α : Type} {c : Prop} [Decidable c] {a : Option α} {r : α} (h : (if c then none else a) = some r) : ¬ c ∧ a = some r := by
  by_cases hc : c
  · rw [if_pos hc] at h; cases h
  · rw [if_neg hc] at h; exact ⟨hc, h⟩
theorem it_z {α : Type} {c : Prop} [Decidable c] {a : Option α} {r : α} (h : (if c then a else none) = some r) : c ∧ a = some r := by
  by_cases hc : c
  · rw [if_pos hc] at h; exact ⟨hc, h⟩
  · rw [if_neg hc] at h; cases h
/-- a loop: at most n rounds of F -/
def lpT {T : Type} (bot : T) (F : T → T) : Nat → T
  | 0 => bot
  | n + 1 => F (lpT bot F n)
theorem lpT_ind {T : Type} {bot : T} {F : T → T} {J : T → Prop} (h0 : J bot) (hs : ∀ g, J g → J (F g)) : ∀ n, J (lpT bot F n)
  | 0 => h0
  | n + 1 => hs _ (lpT_ind h0 hs n)
theorem k_met {θ : Th} {l : Launch} {M : Mm} {y : MethodName} {bytes : ByteArray} {mL : Nat} {rt : Option FieldType} {rm : Room} {av : List Value} {Qc : Array Value → State → Outcome → State → Prop} (hy : plainName y.cls = true) (hlen : (lg_sl av).length ≤ mL)
    (body : ∀ (p : Program) (e : Env) (s : State) (m : MethodId) (args : Array Value) (below : List Frame) (meth : Method) (c : Code), Cx θ p s m args meth c bytes mL y.cls rt → ∀ ls : Array Slot, lv_has ls mL (lv_args 0 av) → wd θ M s.heap → W p l e rm s m args below meth c s.heap [] 0 0 (MQ below Qc args s 0 0 (tA θ)) (F0 m 0 ls [])) : Met l y (gws y bytes mL rt) rm (va_Pc av (wU θ M)) Qc 0 0 (tA θ) := by
  refine Met.ofW (cc := bytes) (maxL := mL) (ret := rt) hy rfl ?_
  intro p e s m args below meth c s₁ B hml hv
  obtain ⟨rfl, hK, hw⟩ := hv
  have hts := atoms_spec (ws := gws y bytes mL rt) B.pre
  have hl := lv_entry av (n := mL) hlen
  rw [lg_entry_eq]
  generalize (lg_sl av ++ List.replicate (mL - (lg_sl av).length) Slot.unset).toArray = ls at hl ⊢
  exact body p e s m _ below meth c ⟨B.exec, B.bytes, hml, findClass_of_methodNamed B.named, fun w h => hts w (List.mem_cons_of_mem _ h), hK, B.returns, B.notSynchronized⟩ ls hl hw
