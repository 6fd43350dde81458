set_option maxRecDepth 100000 in
theorem w_60 : Cond.methodLink RL 57 yX2_init ∈ gw := gw_in 60 (by decide +kernel) rfl
set_option maxRecDepth 100000 in
theorem w_521 : Cond.methodLink RL 60 yX3_init ∈ gw := gw_in 521 (by decide +kernel) rfl
set_option maxRecDepth 100000 in
theorem w_58 : Cond.classLink RL 8 "RationalProgram" ∈ gw := gw_in 58 (by decide +kernel) rfl
set_option maxRecDepth 100000 in
theorem w_519 : Cond.classLink RL 58 "RationalProgramModel" ∈ gw := gw_in 519 (by decide +kernel) rfl
set_option maxRecDepth 100000 in
theorem w_44 : Cond.initialized RX2 ∈ gw := gw_in 44 (by decide +kernel) rfl
set_option maxRecDepth 100000 in
theorem w_47 : Cond.initialized RX3 ∈ gw := gw_in 47 (by decide +kernel) rfl
set_option maxRecDepth 100000 in
theorem w_61 : Cond.instanceMethod yX2_init ∈ gw := gw_in 61 (by decide +kernel) rfl
set_option maxRecDepth 100000 in
theorem w_522 : Cond.instanceMethod yX3_init ∈ gw := gw_in 522 (by decide +kernel) rfl
set_option maxRecDepth 100000 in
theorem bw_in : ∀ w ∈ bw, w ∈ lw_tbl ∧ w.onTables = true := by decide +kernel
set_option maxRecDepth 100000 in
theorem zz_start {θ : Th} {s : State} {b : Nat} (hθ : θ.1 = s.heap.size) (hts : ∀ w ∈ lw_tbl, w.before #[Value.ref b] s = true) (hgv : (Jvm.Cond.and given_1 narrow_1).before #[Value.ref b] s = true) : zz θ s s.heap := by
  have hs := flat_of_before _ hgv
  have hA : ∀ a : Nat, a < s.heap.size → ¬ tA θ a := fun a h => by show ¬ θ.1 ≤ a; rw [hθ]; exact Nat.not_le.mpr h
  refine ⟨vx_Zqof (hts _ (by decide +kernel)) (hts _ (by decide +kernel)) (hs _ (by decide +kernel)) hA, vx_Zqof (hts _ (by decide +kernel)) (hts _ (by decide +kernel)) (hs _ (by decide +kernel)) hA, fun w hw => va_any (bw_in w hw).2 (hts w (bw_in w hw).1), fun q hq => ?_⟩
  simp only [ncs, List.mem_cons, List.not_mem_nil, or_false] at hq
  rcases hq with rfl | rfl | rfl | rfl | rfl | rfl
  · exact va_Nc.of (hs (.not (.castable (exn 2) (exn 1))) (by decide +kernel))
  · exact va_Nc.of (hs (.not (.castable (exn 0) (exn 1))) (by decide +kernel))
  · exact va_Nc.of (hs (.not (.castable (exn 0) (exn 2))) (by decide +kernel))
  · exact va_Nc.of (hs (.not (.castable (exn 3) (exn 1))) (by decide +kernel))
  · exact va_Nc.of (hs (.not (.castable (exn 3) (exn 2))) (by decide +kernel))
  · exact va_Nc.of (hs (.not (.castable (exn 3) (exn 0))) (by decide +kernel))
theorem law_loop {θ : Th} {p : Program} {l : Launch} {e : Env} {s : State} {m : MethodId} {below : List Frame} {meth : Method} {c : Code} {b L : Nat} {xs : Nat → Int32} (C : Cx θ p s m #[Value.ref b] meth c cL_law 8 RL (some .boolean)) (LX : va_X b L xs s s.heap ∧ b < s.heap.size ∧ θ.1 = s.heap.size ∧ l.stackTraces = false ∧ zz θ s s.heap) (N : Nat) : ∀ n, n ≤ 513 → J_L_law_23 θ p l e s m below meth c b n (lpT (fun _ _ => none) (F_L_law_23 N L xs) n)
  | 0, _ => fun _ _ _ h => by cases h
  | n + 1, hn => tF_L_law_23 C ⟨LX.1, LX.2.1, LX.2.2.1, by omega, LX.2.2.2.1, LX.2.2.2.2⟩ N (law_loop C LX N n (by omega))
set_option maxHeartbeats 8000000 in
set_option maxRecDepth 100000 in
theorem whole_start {p : Program} {e : Env} {s : State} {m : MethodId} {below : List Frame} {meth : Method} {c : Code} (l : Launch) (hl0 : l.stackTraces = false) {b L : Nat} {xs : Nat → Int32} (hL : L ≤ 2048) (C0 : lw_At p s m meth c b L xs) : W p l e room_1 s m #[Value.ref b] below meth c s.heap [] 0 0 (lw_Z below #[Value.ref b] s) (entryFrame m ([Value.ref b] : List Value).toArray 8) := by
  obtain ⟨hx, hb, hr, hml, hown, hts, hX, hbl, hlocks, hgv⟩ := id C0
  have hgw : ∀ w ∈ gw, w.before #[Value.ref b] s = true := fun w h => hts w (List.mem_filter.mp h).1
  obtain ⟨c0, iS0, hKn0⟩ := u_known (C := RX0) (T := TX0) (N := 6) (n := 6) hgw gin0 (hgw _ w_insX0)
  obtain ⟨c1, iS1, hKn1⟩ := u_known (C := RX1) (T := TX1) (N := 7) (n := 7) hgw gin1 (hgw _ w_insX1)
  obtain ⟨c2, iS2, hKn2⟩ := u_known (C := RX2) (T := TX2) (N := 3) (n := 3) hgw gin2 (hgw _ w_insX2)
  obtain ⟨c3, iS3, hKn3⟩ := u_known (C := RX3) (T := TX3) (N := 20) (n := 20) hgw gin3 (hgw _ w_insX3)
  obtain ⟨dC, dI, hKc⟩ : ∃ (dC : Nat → ClassId) (dI : Nat → Nat → Nat), ∀ (k : Nat) (q : vw_C), vwCl[k]? = some q → u_Kn s q.1 q.2.1 q.2.2 (dC k) (dI k) := by
    refine ⟨fun k => if k = 0 then c0 else if k = 1 then c1 else if k = 2 then c2 else c3, fun k => if k = 0 then iS0 else if k = 1 then iS1 else if k = 2 then iS2 else iS3, ?_⟩
    intro k q hq
    match k, hq with
    | 0, hq => cases hq; exact hKn0
    | 1, hq => cases hq; exact hKn1
    | 2, hq => cases hq; exact hKn2
    | 3, hq => cases hq; exact hKn3
    | k + 4, hq => simp [vwCl] at hq
  obtain ⟨cI, kI, compI, fI, hkI, hkdI⟩ := Cond.arrayClass_spec (hgw _ w_arrI)
  obtain ⟨cJ, kJ, compJ, fJ, hkJ, hkdJ⟩ := Cond.arrayClass_spec (hgw _ w_arrJ)
  have hov : va_AOA .long s := va_AOA.of (hts (.arrayOver (.array .long)) (List.mem_of_getElem? (i := 73) (by decide +kernel)))
  obtain ⟨compO, cO, kO, -, -, hkO, hkdO, fO⟩ := arrayOverA_spec hov
  have hK : va_K (dC, dI) vwCl [(cI, .int), (cJ, .long), (cO, .array .long)] s := by
    refine ⟨hKc, fun k q h => ?_⟩
    match k, h with
    | 0, h => cases h; exact ⟨fun n z => ⟨fun k h => (by cases h), kI, hkI, compI, hkdI⟩, fI⟩
    | 1, h => cases h; exact ⟨fun n z => ⟨fun k h => (by cases h), kJ, hkJ, compJ, hkdJ⟩, fJ⟩
    | 2, h => cases h; exact ⟨fun n z => ⟨fun k h => (by cases h), kO, hkO, compO, hkdO⟩, fO⟩
    | k + 3, h => simp at h
  obtain ⟨θ, hθ⟩ : ∃ θ : Th, θ = (s.heap.size, (cI, cJ, cO), (dC, dI), fun _ => 0) := ⟨_, rfl⟩
  have hθ1 : θ.1 = s.heap.size := by rw [hθ]
  have hK : va_K θ.2.2.1 vwCl (tys θ) s := by rw [hθ]; exact hK
  have C : Cx θ p s m #[Value.ref b] meth c cL_law 8 RL (some .boolean) := ⟨hx, hb, hml, hown, hgw, hK, hr, hlocks⟩
  have hz : θ.1 ≤ s.heap.size := Nat.le_of_eq hθ1
  have hS : va_S (tA θ) s.heap s.heap [] := va_S.rf
  have hP0 : va_P θ.2.2.1 vwCl [] s.heap := fun k q h => by simp at h
  have hD0 : va_D (tA θ) [] := ⟨fun i j p q h => by simp at h, fun k q h => by simp at h⟩
  have hl := lv_entry ([.ref b]) (n := 8) (Nat.le_of_ble_eq_true rfl)
  rw [lg_entry_eq]
  generalize (lg_sl ([.ref b]) ++ List.replicate (8 - (lg_sl ([.ref b])).length) Slot.unset).toArray = ls at hl ⊢
  have hl : lv_has ls 8 [(0, .ref b)] := hl
  refine va_new (ci := 2) (fs := [.null, .null, .null]) (C := RX2) (T := TX2) (N := 3) C.1 C.2.1 hgw gin2 tyX2 tyX2_ok hown (hgw _ w_58) (hgw _ w_insX2) (hgw _ w_44) hK hP0 hD0 hS (fun q h => Nat.le_trans hz h) rfl (by decide) (Nat.le_of_ble_eq_true rfl) (Nat.le_of_ble_eq_true rfl) dL_law_0 (fun q0v H hP hD hS => ?_)
  have hcd : cd θ [] q0v 2 [.null, .null, .null] [] H := ⟨hP, hD⟩
  refine W.widen (k := 1) (n := 3) (Nat.le_of_ble_eq_true rfl) (Nat.le_of_ble_eq_true rfl) ?_
  refine lv_dup C.1 C.2.1 dL_law_3 rfl ?_
  refine n_init0 C cf_X2_init w_61 rfl w_60 hov (c_X2_init θ l [] q0v) ⟨rfl, rfl, Nat.le_of_ble_eq_true rfl, Nat.le_of_ble_eq_true rfl⟩ hcd hS hz hl.1 (Nat.le_of_ble_eq_true rfl) dL_law_4 ⟨Nat.le_of_ble_eq_true rfl, Nat.le_of_ble_eq_true rfl⟩ (fun t H locs ht hB hS => ?_)
  refine W.widen (k := 145) (n := 1081) (Nat.le_of_ble_eq_true rfl) (Nat.le_of_ble_eq_true rfl) ?_
  obtain ⟨q5, q18_9, r18_9, q27_9, q34_9, q41_9, q48_9, q16, q9_20, r9_20, q29_20, r29_20, q38_20, q45_20, q29, hK9, hcd⟩ := hB
  subst ht
  refine lv_astore_n (lv' := [(1, .ref q0v), (0, .ref b)]) C.1 C.2.1 dL_law_7 rfl hl (by decide) rfl (fun ls hl => ?_)
  refine n_new (cj := 3) (gs := [.int 0, .int 0, .null, .null, .null, .null, .null, .int 0, .int 0, .int 0, .null, .null, .null, .null, .int 0, .null, .null, .null, .int 0, .null]) (T := TX3) (N := 20) C gin3 tyX3 tyX3_ok w_519 w_insX3 w_47 hcd hS hz rfl (by decide) (Nat.le_of_ble_eq_true rfl) (Nat.le_of_ble_eq_true rfl) dL_law_8 (fun qMv H hcd hS => ?_)
  refine W.widen (k := 146) (n := 1101) (Nat.le_of_ble_eq_true rfl) (Nat.le_of_ble_eq_true rfl) ?_
  refine lv_dup C.1 C.2.1 dL_law_11 rfl ?_
  refine n_init C cf_X3_init w_522 rfl w_521 hov (c_X3_init θ l _ qMv) ⟨rfl, rfl, Nat.le_of_ble_eq_true rfl, Nat.le_of_ble_eq_true rfl⟩ hcd hS hz hl.1 (Nat.le_of_ble_eq_true rfl) dL_law_12 ⟨Nat.le_of_ble_eq_true rfl, Nat.le_of_ble_eq_true rfl⟩ (fun t H locs ht hB hS => ?_)
  refine W.widen (k := 159) (n := 2259) (Nat.le_of_ble_eq_true rfl) (Nat.le_of_ble_eq_true rfl) ?_
  obtain ⟨mq12, mq19, mq26, mq33, mq40, mq48, mq56, mq64, mq72, mq81, mq90, mq99, mq108, hK9, hcd⟩ := hB
  subst ht
  have hcd := cd_in.mp hcd
  refine lv_astore_n (lv' := [(2, .ref qMv), (1, .ref q0v), (0, .ref b)]) C.1 C.2.1 dL_law_15 rfl hl (by decide) rfl (fun ls hl => ?_)
  refine lv_iconst (v := 1) C.1 C.2.1 dL_law_16 (by decide) ?_
  refine n_newJ C w_arrJ hcd hS hz 1 (by decide) (by decide) (Nat.le_of_ble_eq_true rfl) (Nat.le_of_ble_eq_true rfl) (Nat.le_of_ble_eq_true rfl) dL_law_17 (fun q17v H hcd hS => ?_)
  refine W.widen (k := 160) (n := 2260) (Nat.le_of_ble_eq_true rfl) (Nat.le_of_ble_eq_true rfl) ?_
  refine lv_astore_n (lv' := [(3, .ref q17v), (2, .ref qMv), (1, .ref q0v), (0, .ref b)]) C.1 C.2.1 dL_law_19 rfl hl (by decide) rfl (fun ls hl => ?_)
  refine lv_iconst (v := 0) C.1 C.2.1 dL_law_20 (by decide) ?_
  refine lv_istore (lv' := [(4, .int 0), (3, .ref q17v), (2, .ref qMv), (1, .ref q0v), (0, .ref b)]) C.1 C.2.1 dL_law_21 hl (by decide) rfl (fun ls hl => ?_)
  have eW : cl [] q0v 2 [.ref q5, .ref q16, .ref q29] ((((([] ++ ((q5, .inr (1, [.int 1, .int 0, .ref q18_9, .ref q27_9, .ref q34_9, .ref q41_9, .ref q48_9])) :: ((((([] ++ (nwO θ q18_9 r18_9 3 :: nwR θ r18_9 3 6)) ++ [nwI θ q27_9 3]) ++ [nwI θ q34_9 3]) ++ [nwI θ q41_9 3]) ++ [nwI θ q48_9 4]))) ++ ((q16, .inr (0, [.ref q9_20, .int 0, .int (-1), .ref q29_20, .ref q38_20, .ref q45_20])) :: (((([] ++ (nwO θ q9_20 r9_20 126 :: nwR θ r9_20 126 6)) ++ (nwO θ q29_20 r29_20 3 :: nwR θ r29_20 3 4)) ++ [nwI θ q38_20 4]) ++ [nwJ θ q45_20 4]))) ++ [nwI θ q29 126]) ++ ((qMv, .inr (3, [.int 1, .int 0, .ref mq12, .ref mq19, .ref mq26, .ref mq33, .ref mq40, .int 0, .int 0, .int 0, .ref mq48, .ref mq56, .ref mq64, .ref mq72, .int 0, .ref mq81, .ref mq90, .ref mq99, .int 0, .ref mq108])) :: ((((((((((((([] ++ [nwI θ mq12 12]) ++ [nwI θ mq19 3]) ++ [nwI θ mq26 4]) ++ [nwI θ mq33 3]) ++ [nwI θ mq40 3]) ++ [nwI θ mq48 45]) ++ [nwI θ mq56 9]) ++ [nwI θ mq64 9]) ++ [nwJ θ mq72 30]) ++ [nwJ θ mq81 650]) ++ [nwJ θ mq90 130]) ++ [nwJ θ mq99 130]) ++ [nwI θ mq108 130]))) ++ [nwJ θ q17v 1]) = WF θ (fun k => ([q0v, q5, q16, qMv, q27_9, q34_9, q41_9, q48_9, q38_20, q29, mq12, mq19, mq26, mq33, mq40, mq48, mq56, mq64, mq108, q18_9, q29_20, q9_20, q45_20, mq72, mq81, mq90, mq99, q17v] : List Nat).getD k 0) r18_9 r9_20 r29_20 := by
    unfold cl WF wfP wfT
    simp only [List.append_assoc, List.cons_append, List.nil_append]
    rfl
  have hcd : va_P θ.2.2.1 vwCl (cl [] q0v 2 [.ref q5, .ref q16, .ref q29] ((((([] ++ ((q5, .inr (1, [.int 1, .int 0, .ref q18_9, .ref q27_9, .ref q34_9, .ref q41_9, .ref q48_9])) :: ((((([] ++ (nwO θ q18_9 r18_9 3 :: nwR θ r18_9 3 6)) ++ [nwI θ q27_9 3]) ++ [nwI θ q34_9 3]) ++ [nwI θ q41_9 3]) ++ [nwI θ q48_9 4]))) ++ ((q16, .inr (0, [.ref q9_20, .int 0, .int (-1), .ref q29_20, .ref q38_20, .ref q45_20])) :: (((([] ++ (nwO θ q9_20 r9_20 126 :: nwR θ r9_20 126 6)) ++ (nwO θ q29_20 r29_20 3 :: nwR θ r29_20 3 4)) ++ [nwI θ q38_20 4]) ++ [nwJ θ q45_20 4]))) ++ [nwI θ q29 126]) ++ ((qMv, .inr (3, [.int 1, .int 0, .ref mq12, .ref mq19, .ref mq26, .ref mq33, .ref mq40, .int 0, .int 0, .int 0, .ref mq48, .ref mq56, .ref mq64, .ref mq72, .int 0, .ref mq81, .ref mq90, .ref mq99, .int 0, .ref mq108])) :: ((((((((((((([] ++ [nwI θ mq12 12]) ++ [nwI θ mq19 3]) ++ [nwI θ mq26 4]) ++ [nwI θ mq33 3]) ++ [nwI θ mq40 3]) ++ [nwI θ mq48 45]) ++ [nwI θ mq56 9]) ++ [nwI θ mq64 9]) ++ [nwJ θ mq72 30]) ++ [nwJ θ mq81 650]) ++ [nwJ θ mq90 130]) ++ [nwJ θ mq99 130]) ++ [nwI θ mq108 130]))) ++ [nwJ θ q17v 1])) H ∧ va_D (tA θ) (cl [] q0v 2 [.ref q5, .ref q16, .ref q29] ((((([] ++ ((q5, .inr (1, [.int 1, .int 0, .ref q18_9, .ref q27_9, .ref q34_9, .ref q41_9, .ref q48_9])) :: ((((([] ++ (nwO θ q18_9 r18_9 3 :: nwR θ r18_9 3 6)) ++ [nwI θ q27_9 3]) ++ [nwI θ q34_9 3]) ++ [nwI θ q41_9 3]) ++ [nwI θ q48_9 4]))) ++ ((q16, .inr (0, [.ref q9_20, .int 0, .int (-1), .ref q29_20, .ref q38_20, .ref q45_20])) :: (((([] ++ (nwO θ q9_20 r9_20 126 :: nwR θ r9_20 126 6)) ++ (nwO θ q29_20 r29_20 3 :: nwR θ r29_20 3 4)) ++ [nwI θ q38_20 4]) ++ [nwJ θ q45_20 4]))) ++ [nwI θ q29 126]) ++ ((qMv, .inr (3, [.int 1, .int 0, .ref mq12, .ref mq19, .ref mq26, .ref mq33, .ref mq40, .int 0, .int 0, .int 0, .ref mq48, .ref mq56, .ref mq64, .ref mq72, .int 0, .ref mq81, .ref mq90, .ref mq99, .int 0, .ref mq108])) :: ((((((((((((([] ++ [nwI θ mq12 12]) ++ [nwI θ mq19 3]) ++ [nwI θ mq26 4]) ++ [nwI θ mq33 3]) ++ [nwI θ mq40 3]) ++ [nwI θ mq48 45]) ++ [nwI θ mq56 9]) ++ [nwI θ mq64 9]) ++ [nwJ θ mq72 30]) ++ [nwJ θ mq81 650]) ++ [nwJ θ mq90 130]) ++ [nwJ θ mq99 130]) ++ [nwI θ mq108 130]))) ++ [nwJ θ q17v 1])) := hcd
  rw [eW] at hcd
  have hw := wf_wd hcd.1 hcd.2
  refine W.widen (k := 601024 - 513) (n := 7293033 - 6 * 513) (Nat.le_of_ble_eq_true rfl) (Nat.le_of_ble_eq_true rfl) ?_
  obtain ⟨M1, hM1⟩ := law_pure L xs hL
  exact law_loop (θ := th1 θ (fun k => ([q0v, q5, q16, qMv, q27_9, q34_9, q41_9, q48_9, q38_20, q29, mq12, mq19, mq26, mq33, mq40, mq48, mq56, mq64, mq108, q18_9, q29_20, q9_20, q45_20, mq72, mq81, mq90, mq99, q17v] : List Nat).getD k 0) r18_9 r9_20 r29_20) C ⟨hX, hbl, hθ1, hl0, zz_start hθ1 hts hgv⟩ 5000 513 (Nat.le_refl _) 0 M00 M1 hM1 _ _ ls (lv_sub hl [4, 3, 2, 1, 0] rfl) hw hS
set_option maxHeartbeats 4000000 in
theorem lw_walk (l : Launch) (hl0 : l.stackTraces = false) (b : Addr) (xs : List Int32) : MetFree l x (headSpec (Jvm.Cond.code x code maxLocals ret :: tables_1) room_1) (lw_P b xs) (fun _ _ _ _ _ => True) lw_Q := by
  refine MetFree.of_bodyS (code := code) (maxLocals := maxLocals) (ret := ret) (by decide) ?_ ?_
  · intro args s m h hn
    obtain ⟨meth, c, h1, h2, h3, h4, h5, h6, -, -⟩ := Cond.code_spec hn (atoms_spec (ws := Jvm.Cond.code x code maxLocals ret :: tables_1) h _ List.mem_cons_self)
    exact ⟨meth, c, h1, h2, h3, h4, h5, h6⟩
  · intro p e s m args below meth c s₁ B hml0 hP _
    obtain ⟨rfl, hx, hbd, hgv⟩ := hP
    obtain ⟨scr, harrAt, hlist, hof, hsmall⟩ := hx
    obtain ⟨hcb, hkn, -, -⟩ := State.arrayAt?_spec harrAt
    have hown : s.vm.findClass R_law = some m.cls := findClass_of_methodNamed B.named
    have hts0 : ∀ c ∈ (Jvm.Cond.code x code maxLocals ret :: tables_1), c.before #[Value.ref b] s = true := atoms_spec (ws := Jvm.Cond.code x code maxLocals ret :: tables_1) B.pre
    have hts : ∀ w ∈ lw_tbl, w.before #[Value.ref b] s = true := k2_hts_sels lw_privs (fun w hw => hts0 w (List.mem_cons_of_mem _ hw)) lw_privs_ok
    have hml : c.maxLocals = 8 := B.maxLocals_eq (hts0 _ List.mem_cons_self)
    have X₀ : Stand p l e room_1 s m #[Value.ref b] below meth c s₁ [] 0 0 := Stand.of_body B
    have hh0 : s₁.heap = s.heap := by rw [B.state]; rfl
    have hsz : scr.slots.size = xs.length := by rw [← Array.length_toList, hlist, List.length_map]
    have hval : ∀ j : Nat, j < xs.length → scr.slots[j]? = some (.int (xs.getD j 0)) := fun j hj => by
      rw [← Array.getElem?_toList, hlist]
      simp [hj]
    have hbl : b < s.heap.size := (Array.getElem?_eq_some_iff.mp hcb).1
    have hX : va_X b xs.length (fun j => xs.getD j 0) s s.heap := ⟨scr, hcb, hof, hkn, hsz, hval⟩
    have K : W p l e room_1 s m #[Value.ref b] below meth c s₁.heap [] 0 0 (lw_Z below #[Value.ref b] s) (entryFrame m ([Value.ref b] : List Value).toArray 8) := by
      rw [hh0]
      exact whole_start l hl0 hbd ⟨B.exec, B.bytes, B.returns, hml, hown, hts, hX, hbl, B.notSynchronized, hgv⟩
    obtain ⟨t, a1, o, b1, b2, b3⟩ := K s₁ rfl X₀
    exact ⟨t, o, a1, b1, b2, b3⟩
theorem lw_pre_spec {args : Array Value} {s : State} (h : (Jvm.Cond.and given_1 narrow_1).before args s = true) (hr : rest_1_c.before args s = true) : ∃ (b : Addr) (xs : List Int32), lw_P b xs args s := by
  have hs := flat_of_before _ h
  have hq := flat_of_before _ hr
  have hc : (Cond.count 1).before args s = true := hs _ (by decide +kernel)
  have harr : (Cond.arrayOf (.arg 0) .int).before args s = true := hs _ (by decide +kernel)
  have hle : (Cond.le (.length (.arg 0)) (.int 2048)).before args s = true := hs _ (by decide +kernel)
  have hlen : (Cond.isInt (.length (.arg 0))).before args s = true := hq _ (by decide +kernel)
  have hall : (Cond.all (.arg 0) (.isInt (.elem (.arg 0) (.index 0)))).before args s = true := hq _ (by decide +kernel)
  obtain ⟨b, xs, hb, hx⟩ := State.ints_of_pre rfl harr hlen hall
  have hsm : xs.length < 2 ^ 31 := hx.choose_spec.2.2.2
  have hev : (Term.length (.arg 0)).eval args s none [] s = some (.int xs.length.toInt32) := hx.length_eval hb
  have hv := Cond.le_ints hev (show (Term.int 2048).eval args s none [] s = some (.int 2048) from rfl)
  have hd : xs.length.toInt32 ≤ 2048 := by
    simpa [Cond.before, Cond.holds, hv] using hle
  have hN : xs.length ≤ 2048 := (Int32.ofNat_le_ofNat hsm (by decide)).mp (show Int32.ofNat xs.length ≤ Int32.ofNat 2048 from hd)
  exact ⟨b, xs, Cond.one_arg hc (show args[0]? = some (.ref b) from hb), hx, hN, h⟩
theorem lw_comes (l : Launch) (hl0 : l.stackTraces = false) : Comes l x (Jvm.Cond.code x code maxLocals ret :: tables_1) room_1 (fun tb e args s => Calls_1 tb e args s ∧ rest_1 tb e args s ∧ Pre_1 tb e args s)
    (fun _ _ args s o t => lw_Q args s o t) := by
  intro p e ha hc hk s m args below hf hfit hheap happ hpre
  obtain ⟨b, xs, hP⟩ := lw_pre_spec hpre.2.2 hpre.2.1
  obtain ⟨k, o, h1, h2, h3, hQ⟩ := lw_walk l hl0 b xs p e ha hc hk s m args below hf ((Spec.applies_iff_loose hf).mp happ).1 hP trivial
  exact ⟨k, o, h1, h2, h3, hQ⟩
theorem lw_frame {s t : State} {o : Outcome} {args : Array Value} (h : Framed s o t [] 601024 7293033) :
    Framed s o t (fieldLocs frame_1_writes args s ++ arrayLocs frame_1_arrays args s ++ staticLocs frame_1_statics s) 601024 7293033 := h
theorem lw_limb (L : Cond) (hL : ∀ (args : Array Value) (s t : State), L.after args s (.returned (some (.int 1))) t = true) :
    ArmFor flags0 classFile x code maxLocals ret World_1 tables_1 room_1 Calls_1 rest_1 Pre_1
      (fun tb e a s o t => postC L tb e a s o t ∧ Framed s o t (fieldLocs frame_1_writes a s ++ arrayLocs frame_1_arrays a s ++ staticLocs frame_1_statics s) 601024 7293033) := by
  intro l hfl _ _ p e ha hc hk s m args below hf hfit hheap happ hpre
  obtain ⟨k, o, h1, h2, h3, rfl, hF⟩ := lw_comes l (by unfold Launch.stackTraces; rw [hfl]; decide) p e ha hc hk s m args below hf hfit hheap happ hpre
  exact ⟨k, _, h1, h2, h3, hL args s _, lw_frame hF⟩
theorem i_vc : Claimed_1_1 ∧ Claimed_1_2 := ⟨lw_limb limb_1_1 (fun args s t => by simp [limb_1_1, Cond.after, Cond.holds, Cond.value]), lw_limb limb_1_2 (fun args s t => Cond.after_iff.mpr (by
  first | (rw [show limb_1_2 = Cond.eq .result (.int 1) from rfl, Cond.eq_ints (x := 1) (y := 1) rfl rfl]; simp; done) | (simp [limb_1_2, Cond.value, Term.eval]; done)))⟩
