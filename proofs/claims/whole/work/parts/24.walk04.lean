theorem hd_X5_trial : yX5_trial.cls = RX5 ∧ yX5_trial.cls ≠ "java/lang/invoke/MethodHandle" ∧ yX5_trial.cls ≠ "java/lang/invoke/VarHandle" ∧ (parseMethodDescriptor yX5_trial.desc).map (fun d => d.parameters.length) = some 1 := by decide +kernel
abbrev rm_X5_trial : Room := { frames := 2, cells := 0, slots := 0, locals := 44 }
abbrev q_X5_trial (dC : Nat → ClassId) (dI : Nat → Nat → Nat) (cI cJ cZ : ClassId) (ht ht_text ht_bench ht_acts ht_drawers ht_told ht_pagesOfTrial ht_kept : Nat) (vt_spoken : Int32) (vt_nowSeed : Int64) (R : Int32) (A : Nat → Prop) : Array Value → State → Outcome → State → Prop := va_Qi (fun (r : Int32) (_ : Unit) => R = r) (fun (u : Unit) (t : State) => va_P (dC, dI) vwCl [(ht, .inr (4, [.ref ht_text, .ref ht_bench, .ref ht_acts, .ref ht_drawers, .ref ht_told, .ref ht_pagesOfTrial, .ref ht_kept, .int vt_spoken, .long vt_nowSeed]))] t.heap ∧ va_K (dC, dI) vwCl [(cI, .int), (cJ, .long), (cZ, .boolean)] t ∧ va_D A [(ht, .inr (4, [.ref ht_text, .ref ht_bench, .ref ht_acts, .ref ht_drawers, .ref ht_told, .ref ht_pagesOfTrial, .ref ht_kept, .int vt_spoken, .long vt_nowSeed]))]) A
set_option maxHeartbeats 4000000 in
set_option maxRecDepth 100000 in
theorem k_X5_trial (l : Launch) (dC : Nat → ClassId) (dI : Nat → Nat → Nat) (cI cJ cZ : ClassId) (sz : Nat) (ht ht_text ht_bench ht_acts ht_drawers ht_told ht_pagesOfTrial ht_kept : Nat) (a1 : Int32) (vt_spoken : Int32) (vt_nowSeed : Int64) (N : Nat) (R : Int32) (hf : f_X5_trial N a1 vt_spoken = some R) : Met l yX5_trial wsX5_trial (rm_X5_trial) (va_Pc [.ref ht, .int a1] (fun U => U.heap.size = sz ∧ va_P (dC, dI) vwCl [(ht, .inr (4, [.ref ht_text, .ref ht_bench, .ref ht_acts, .ref ht_drawers, .ref ht_told, .ref ht_pagesOfTrial, .ref ht_kept, .int vt_spoken, .long vt_nowSeed]))] U.heap ∧ va_K (dC, dI) vwCl [(cI, .int), (cJ, .long), (cZ, .boolean)] U ∧ va_D (fun _ => True) [(ht, .inr (4, [.ref ht_text, .ref ht_bench, .ref ht_acts, .ref ht_drawers, .ref ht_told, .ref ht_pagesOfTrial, .ref ht_kept, .int vt_spoken, .long vt_nowSeed]))])) (q_X5_trial dC dI cI cJ cZ ht ht_text ht_bench ht_acts ht_drawers ht_told ht_pagesOfTrial ht_kept vt_spoken vt_nowSeed R (va_A [(ht, .inr (4, [.ref ht_text, .ref ht_bench, .ref ht_acts, .ref ht_drawers, .ref ht_told, .ref ht_pagesOfTrial, .ref ht_kept, .int vt_spoken, .long vt_nowSeed]))] sz)) 0 0 (va_A [(ht, .inr (4, [.ref ht_text, .ref ht_bench, .ref ht_acts, .ref ht_drawers, .ref ht_told, .ref ht_pagesOfTrial, .ref ht_kept, .int vt_spoken, .long vt_nowSeed]))] sz) := by
  refine Met.ofW (cc := cX5_trial) (maxL := 2) (ret := (some .int)) (by decide) rfl ?_
  intro p e s m args below meth c s₁ B hml hv
  obtain ⟨rfl, hsz, hP, hK, hD0⟩ := hv
  have hx := B.exec
  have hb := B.bytes
  have hr := B.returns
  have hts := atoms_spec (ws := wsX5_trial) B.pre
  have hown : s.vm.findClass RX5 = some m.cls := findClass_of_methodNamed B.named
  have hlocks := B.notSynchronized
  clear B
  subst hsz
  have hw0 := hts (.fieldLink RX5 50 "ShorthandCourt" "spoken" "I") (by decide +kernel)
  have hinX5 : ∀ w ∈ u_ws RX5 TX5 9, w ∈ wsX5_trial := by decide +kernel
  have hD := hD0.self (sz := s.heap.size)
  clear hD0
  generalize hAe : va_A [(ht, .inr (4, [.ref ht_text, .ref ht_bench, .ref ht_acts, .ref ht_drawers, .ref ht_told, .ref ht_pagesOfTrial, .ref ht_kept, .int vt_spoken, .long vt_nowSeed]))] s.heap.size = A at hD ⊢
  have hA : ∀ q : Nat, s.heap.size ≤ q → A q := fun q h => by rw [← hAe]; exact Or.inr h
  clear hAe
  have hS : va_S A s.heap s.heap [] := va_S.rf
  have hl := lv_entry ([.ref ht, .int a1]) (n := 2) (Nat.le_of_ble_eq_true rfl)
  rw [lg_entry_eq]
  generalize (lg_sl ([.ref ht, .int a1]) ++ List.replicate (2 - (lg_sl ([.ref ht, .int a1])).length) Slot.unset).toArray = ls at hl ⊢
  have hl : lv_has ls 2 [(0, .ref ht), (1, .int a1)] := hl
  unfold f_X5_trial at hf
  refine lv_aload_n hx hb dX5_trial_0 rfl (lv_at hl 0 rfl) ?_
  refine va_get (D := (dC, dI)) (ci := 4) (v := .int vt_spoken) (C := RX5) (T := TX5) (N := 9) hx hb hts hinX5 hown hK hP 0 rfl rfl 7 (by decide) hw0 (fun _ h9 => h9) rfl dX5_trial_1 ?_
  refine lv_iload_n hx hb dX5_trial_4 rfl (lv_at hl 1 rfl) ?_
  obtain ⟨x1, hx1, hf⟩ := dg_bind hf
  have hPc : va_P (dC, dI) vwCl [] s.heap := hP.sub [] rfl
  have hDc : va_D A [] := hD.sub [] (by decide) rfl
  have hFc := va_free (wc := []) hD hS hA [] rfl
  refine va_calli (va_runS (As := [.int vt_spoken, .int a1]) (rest := []) ⟨hx, hb, hml, hown, hts⟩ (k_X4_wordOrNone l dC dI cI cJ cZ s.heap.size vt_spoken a1 N x1 hx1) (va_cwS 2 hts gX5_trial_X4_wordOrNone rfl rfl rfl hd_X4_wordOrNone ⟨Nat.le_of_ble_eq_true rfl, Nat.le_of_ble_eq_true rfl⟩) ⟨blind_pc, pre_pc hPc hK hDc⟩ rfl rfl hl.1 rfl (lv_room (Nat.le_of_ble_eq_true rfl)) dX5_trial_5 ⟨Nat.zero_le _, Nat.zero_le _⟩) hS (fun q _ h => hFc q h) hFc (fun r u t H1 locs eth hvm hw hB hz1 hk1 hS => ?_)
  obtain ⟨hP1, hK1, hD1⟩ := hB
  rw [eth] at hP1
  subst hw
  obtain ⟨hP, hD⟩ := va_join (wr := [(ht, .inr (4, [.ref ht_text, .ref ht_bench, .ref ht_acts, .ref ht_drawers, .ref ht_told, .ref ht_pagesOfTrial, .ref ht_kept, .int vt_spoken, .long vt_nowSeed]))]) (w1 := []) hP hD [] [0] rfl rfl (by decide) (by decide) hk1 hFc hP1 hD1
  clear hP1 hK1 hD1 hPc hDc hFc hk1 hz1 hvm eth
  generalize H1 = H at hP hS ⊢
  have hP : va_P (dC, dI) vwCl [(ht, .inr (4, [.ref ht_text, .ref ht_bench, .ref ht_acts, .ref ht_drawers, .ref ht_told, .ref ht_pagesOfTrial, .ref ht_kept, .int vt_spoken, .long vt_nowSeed]))] H := hP
  have hD : va_D A [(ht, .inr (4, [.ref ht_text, .ref ht_bench, .ref ht_acts, .ref ht_drawers, .ref ht_told, .ref ht_pagesOfTrial, .ref ht_kept, .int vt_spoken, .long vt_nowSeed]))] := hD
  have he := Option.some.inj hf
  have hP9 := hP
  have hD9 := hD
  exact W.iret (v := x1) hx hb hr (fun t eth hW => ⟨⟨x1, (), rfl, he.symm, by rw [eth]; exact hP9, va_K.moved hW.alike hK, hD9⟩, hS.F eth⟩) hS.2.2 dX5_trial_8
theorem hd_X5_isWord : yX5_isWord.cls ≠ "java/lang/invoke/MethodHandle" ∧ yX5_isWord.cls ≠ "java/lang/invoke/VarHandle" ∧ (parseMethodDescriptor yX5_isWord.desc).map (fun d => d.parameters.length) = some 1 := by decide +kernel
abbrev rm_X5_isWord : Room := { frames := 0, cells := 0, slots := 0, locals := 0 }
abbrev q_X5_isWord (dC : Nat → ClassId) (dI : Nat → Nat → Nat) (cI cJ cZ : ClassId) (R : Int32) (A : Nat → Prop) : Array Value → State → Outcome → State → Prop := va_Qi (fun (r : Int32) (_ : Unit) => R = r) (fun (u : Unit) (t : State) => va_P (dC, dI) vwCl [] t.heap ∧ va_K (dC, dI) vwCl [(cI, .int), (cJ, .long), (cZ, .boolean)] t ∧ va_D A []) A
set_option maxHeartbeats 4000000 in
set_option maxRecDepth 100000 in
theorem k_X5_isWord (l : Launch) (dC : Nat → ClassId) (dI : Nat → Nat → Nat) (cI cJ cZ : ClassId) (sz : Nat) (a0 : Int32) (N : Nat) (R : Int32) (hf : f_X5_isWord N a0 = some R) : Met l yX5_isWord wsX5_isWord (rm_X5_isWord) (va_Pc [.int a0] (fun U => U.heap.size = sz ∧ va_P (dC, dI) vwCl [] U.heap ∧ va_K (dC, dI) vwCl [(cI, .int), (cJ, .long), (cZ, .boolean)] U ∧ va_D (fun _ => True) [])) (q_X5_isWord dC dI cI cJ cZ  R (va_A [] sz)) 0 0 (va_A [] sz) := by
  refine Met.ofW (cc := cX5_isWord) (maxL := 1) (ret := (some .boolean)) (by decide) rfl ?_
  intro p e s m args below meth c s₁ B hml hv
  obtain ⟨rfl, hsz, hP, hK, hD0⟩ := hv
  have hx := B.exec
  have hb := B.bytes
  have hr := B.returns
  have hts := atoms_spec (ws := wsX5_isWord) B.pre
  have hown : s.vm.findClass RX5 = some m.cls := findClass_of_methodNamed B.named
  have hlocks := B.notSynchronized
  clear B
  subst hsz
  have hD := hD0.self (sz := s.heap.size)
  clear hD0
  generalize hAe : va_A [] s.heap.size = A at hD ⊢
  have hA : ∀ q : Nat, s.heap.size ≤ q → A q := fun q h => by rw [← hAe]; exact Or.inr h
  clear hAe
  have hS : va_S A s.heap s.heap [] := va_S.rf
  have hl := lv_entry ([.int a0]) (n := 1) (Nat.le_of_ble_eq_true rfl)
  rw [lg_entry_eq]
  generalize (lg_sl ([.int a0]) ++ List.replicate (1 - (lg_sl ([.int a0])).length) Slot.unset).toArray = ls at hl ⊢
  have hl : lv_has ls 1 [(0, .int a0)] := hl
  unfold f_X5_isWord at hf
  refine lv_iload_n hx hb dX5_isWord_0 rfl (lv_at hl 0 rfl) ?_
  refine lv_if_lt (tgt := 13) hx hb dX5_isWord_1 (by decide) (fun c1 => ?_) (fun c1 => ?_)
  · replace hf := dg_t c1 hf
    refine lv_iconst (v := 0) hx hb dX5_isWord_13 (by decide) ?_
    have he := Option.some.inj hf
    have hP9 := hP
    have hD9 := hD
    exact W.zret (v := (0:Int32)) (ty := .boolean) hx hb hr (by decide) (fun t eth hW => ⟨⟨(0:Int32), (), rfl, he.symm, by rw [eth]; exact hP9, va_K.moved hW.alike hK, hD9⟩, hS.F eth⟩) hS.2.2 dX5_isWord_14
  · replace hf := dg_f c1 hf
    refine lv_iload_n hx hb dX5_isWord_4 rfl (lv_at hl 0 rfl) ?_
    refine lv_iconst (v := 4) hx hb dX5_isWord_5 (by decide) ?_
    refine lv_icmp_ge (tgt := 13) hx hb dX5_isWord_6 (by decide) (fun c2 => ?_) (fun c2 => ?_)
    · replace hf := dg_t c2 hf
      refine lv_iconst (v := 0) hx hb dX5_isWord_13 (by decide) ?_
      have he := Option.some.inj hf
      have hP9 := hP
      have hD9 := hD
      exact W.zret (v := (0:Int32)) (ty := .boolean) hx hb hr (by decide) (fun t eth hW => ⟨⟨(0:Int32), (), rfl, he.symm, by rw [eth]; exact hP9, va_K.moved hW.alike hK, hD9⟩, hS.F eth⟩) hS.2.2 dX5_isWord_14
    · replace hf := dg_f c2 hf
      refine lv_iconst (v := 1) hx hb dX5_isWord_9 (by decide) ?_
      refine lv_goto (tgt := 14) hx hb dX5_isWord_10 (by decide) ?_
      have he := Option.some.inj hf
      have hP9 := hP
      have hD9 := hD
      exact W.zret (v := (1:Int32)) (ty := .boolean) hx hb hr (by decide) (fun t eth hW => ⟨⟨(1:Int32), (), rfl, he.symm, by rw [eth]; exact hP9, va_K.moved hW.alike hK, hD9⟩, hS.F eth⟩) hS.2.2 dX5_isWord_14
theorem hd_X5_stateNow : yX5_stateNow.cls = RX5 ∧ yX5_stateNow.cls ≠ "java/lang/invoke/MethodHandle" ∧ yX5_stateNow.cls ≠ "java/lang/invoke/VarHandle" ∧ (parseMethodDescriptor yX5_stateNow.desc).map (fun d => d.parameters.length) = some 0 := by decide +kernel
abbrev rm_X5_stateNow : Room := { frames := 1, cells := 0, slots := 0, locals := 23 }
abbrev q_X5_stateNow (dC : Nat → ClassId) (dI : Nat → Nat → Nat) (cI cJ cZ : ClassId) (ht ht_text ht_bench ht_acts ht_drawers ht_told ht_pagesOfTrial ht_kept ht_bench_drops ht_bench_from ht_bench_to ht_bench_tires ht_bench_copies ht_bench_pages : Nat) (vt_spoken : Int32) (vt_nowSeed : Int64) (vt_bench_size : Int32) (vt_bench_from : Nat → Int32) (vt_bench_to : Nat → Int32) (vt_bench_copies : Nat → Int32) (R : Int64) (A : Nat → Prop) : Array Value → State → Outcome → State → Prop := va_Ql (fun (r : Int64) (_ : Unit) => R = r) (fun (u : Unit) (t : State) => va_P (dC, dI) vwCl [(ht, .inr (4, [.ref ht_text, .ref ht_bench, .ref ht_acts, .ref ht_drawers, .ref ht_told, .ref ht_pagesOfTrial, .ref ht_kept, .int vt_spoken, .long vt_nowSeed])), (ht_bench, .inr (1, [.ref ht_bench_drops, .ref ht_bench_from, .ref ht_bench_to, .ref ht_bench_tires, .ref ht_bench_copies, .ref ht_bench_pages, .int vt_bench_size])), (ht_bench_from, .inl (cI, 4, .inl vt_bench_from)), (ht_bench_to, .inl (cI, 4, .inl vt_bench_to)), (ht_bench_copies, .inl (cI, 4, .inl vt_bench_copies))] t.heap ∧ va_K (dC, dI) vwCl [(cI, .int), (cJ, .long), (cZ, .boolean)] t ∧ va_D A [(ht, .inr (4, [.ref ht_text, .ref ht_bench, .ref ht_acts, .ref ht_drawers, .ref ht_told, .ref ht_pagesOfTrial, .ref ht_kept, .int vt_spoken, .long vt_nowSeed])), (ht_bench, .inr (1, [.ref ht_bench_drops, .ref ht_bench_from, .ref ht_bench_to, .ref ht_bench_tires, .ref ht_bench_copies, .ref ht_bench_pages, .int vt_bench_size])), (ht_bench_from, .inl (cI, 4, .inl vt_bench_from)), (ht_bench_to, .inl (cI, 4, .inl vt_bench_to)), (ht_bench_copies, .inl (cI, 4, .inl vt_bench_copies))]) A
set_option maxHeartbeats 4000000 in
set_option maxRecDepth 100000 in
theorem k_X5_stateNow (l : Launch) (dC : Nat → ClassId) (dI : Nat → Nat → Nat) (cI cJ cZ : ClassId) (sz : Nat) (ht ht_text ht_bench ht_acts ht_drawers ht_told ht_pagesOfTrial ht_kept ht_bench_drops ht_bench_from ht_bench_to ht_bench_tires ht_bench_copies ht_bench_pages : Nat) (vt_spoken : Int32) (vt_nowSeed : Int64) (vt_bench_size : Int32) (vt_bench_from : Nat → Int32) (vt_bench_to : Nat → Int32) (vt_bench_copies : Nat → Int32) (N : Nat) (R : Int64) (hf : f_X5_stateNow N vt_spoken vt_bench_from vt_bench_to vt_bench_copies = some R) : Met l yX5_stateNow wsX5_stateNow (rm_X5_stateNow) (va_Pc [.ref ht] (fun U => U.heap.size = sz ∧ va_P (dC, dI) vwCl [(ht, .inr (4, [.ref ht_text, .ref ht_bench, .ref ht_acts, .ref ht_drawers, .ref ht_told, .ref ht_pagesOfTrial, .ref ht_kept, .int vt_spoken, .long vt_nowSeed])), (ht_bench, .inr (1, [.ref ht_bench_drops, .ref ht_bench_from, .ref ht_bench_to, .ref ht_bench_tires, .ref ht_bench_copies, .ref ht_bench_pages, .int vt_bench_size])), (ht_bench_from, .inl (cI, 4, .inl vt_bench_from)), (ht_bench_to, .inl (cI, 4, .inl vt_bench_to)), (ht_bench_copies, .inl (cI, 4, .inl vt_bench_copies))] U.heap ∧ va_K (dC, dI) vwCl [(cI, .int), (cJ, .long), (cZ, .boolean)] U ∧ va_D (fun _ => True) [(ht, .inr (4, [.ref ht_text, .ref ht_bench, .ref ht_acts, .ref ht_drawers, .ref ht_told, .ref ht_pagesOfTrial, .ref ht_kept, .int vt_spoken, .long vt_nowSeed])), (ht_bench, .inr (1, [.ref ht_bench_drops, .ref ht_bench_from, .ref ht_bench_to, .ref ht_bench_tires, .ref ht_bench_copies, .ref ht_bench_pages, .int vt_bench_size])), (ht_bench_from, .inl (cI, 4, .inl vt_bench_from)), (ht_bench_to, .inl (cI, 4, .inl vt_bench_to)), (ht_bench_copies, .inl (cI, 4, .inl vt_bench_copies))])) (q_X5_stateNow dC dI cI cJ cZ ht ht_text ht_bench ht_acts ht_drawers ht_told ht_pagesOfTrial ht_kept ht_bench_drops ht_bench_from ht_bench_to ht_bench_tires ht_bench_copies ht_bench_pages vt_spoken vt_nowSeed vt_bench_size vt_bench_from vt_bench_to vt_bench_copies R (va_A [(ht, .inr (4, [.ref ht_text, .ref ht_bench, .ref ht_acts, .ref ht_drawers, .ref ht_told, .ref ht_pagesOfTrial, .ref ht_kept, .int vt_spoken, .long vt_nowSeed])), (ht_bench, .inr (1, [.ref ht_bench_drops, .ref ht_bench_from, .ref ht_bench_to, .ref ht_bench_tires, .ref ht_bench_copies, .ref ht_bench_pages, .int vt_bench_size])), (ht_bench_from, .inl (cI, 4, .inl vt_bench_from)), (ht_bench_to, .inl (cI, 4, .inl vt_bench_to)), (ht_bench_copies, .inl (cI, 4, .inl vt_bench_copies))] sz)) 0 0 (va_A [(ht, .inr (4, [.ref ht_text, .ref ht_bench, .ref ht_acts, .ref ht_drawers, .ref ht_told, .ref ht_pagesOfTrial, .ref ht_kept, .int vt_spoken, .long vt_nowSeed])), (ht_bench, .inr (1, [.ref ht_bench_drops, .ref ht_bench_from, .ref ht_bench_to, .ref ht_bench_tires, .ref ht_bench_copies, .ref ht_bench_pages, .int vt_bench_size])), (ht_bench_from, .inl (cI, 4, .inl vt_bench_from)), (ht_bench_to, .inl (cI, 4, .inl vt_bench_to)), (ht_bench_copies, .inl (cI, 4, .inl vt_bench_copies))] sz) := by
  refine Met.ofW (cc := cX5_stateNow) (maxL := 1) (ret := (some .long)) (by decide) rfl ?_
  intro p e s m args below meth c s₁ B hml hv
  obtain ⟨rfl, hsz, hP, hK, hD0⟩ := hv
  have hx := B.exec
  have hb := B.bytes
  have hr := B.returns
  have hts := atoms_spec (ws := wsX5_stateNow) B.pre
  have hown : s.vm.findClass RX5 = some m.cls := findClass_of_methodNamed B.named
  have hlocks := B.notSynchronized
  clear B
  subst hsz
  have hw0 := hts (.fieldLink RX5 50 "ShorthandCourt" "spoken" "I") (by decide +kernel)
  have hw1 := hts (.fieldLink RX5 19 "ShorthandCourt" "bench" "LShorthandCourt$Bench;") (by decide +kernel)
  have hinX5 : ∀ w ∈ u_ws RX5 TX5 9, w ∈ wsX5_stateNow := by decide +kernel
  have hD := hD0.self (sz := s.heap.size)
  clear hD0
  generalize hAe : va_A [(ht, .inr (4, [.ref ht_text, .ref ht_bench, .ref ht_acts, .ref ht_drawers, .ref ht_told, .ref ht_pagesOfTrial, .ref ht_kept, .int vt_spoken, .long vt_nowSeed])), (ht_bench, .inr (1, [.ref ht_bench_drops, .ref ht_bench_from, .ref ht_bench_to, .ref ht_bench_tires, .ref ht_bench_copies, .ref ht_bench_pages, .int vt_bench_size])), (ht_bench_from, .inl (cI, 4, .inl vt_bench_from)), (ht_bench_to, .inl (cI, 4, .inl vt_bench_to)), (ht_bench_copies, .inl (cI, 4, .inl vt_bench_copies))] s.heap.size = A at hD ⊢
  have hA : ∀ q : Nat, s.heap.size ≤ q → A q := fun q h => by rw [← hAe]; exact Or.inr h
  clear hAe
  have hS : va_S A s.heap s.heap [] := va_S.rf
  have hl := lv_entry ([.ref ht]) (n := 1) (Nat.le_of_ble_eq_true rfl)
  rw [lg_entry_eq]
  generalize (lg_sl ([.ref ht]) ++ List.replicate (1 - (lg_sl ([.ref ht])).length) Slot.unset).toArray = ls at hl ⊢
  have hl : lv_has ls 1 [(0, .ref ht)] := hl
  unfold f_X5_stateNow at hf
  refine lv_aload_n hx hb dX5_stateNow_0 rfl (lv_at hl 0 rfl) ?_
  refine va_get (D := (dC, dI)) (ci := 4) (v := .int vt_spoken) (C := RX5) (T := TX5) (N := 9) hx hb hts hinX5 hown hK hP 0 rfl rfl 7 (by decide) hw0 (fun _ h9 => h9) rfl dX5_stateNow_1 ?_
  refine lv_i2l hx hb dX5_stateNow_4 rfl ?_
  refine lv_bipush (v := 36) hx hb dX5_stateNow_5 (by decide) ?_
  refine lv_lshl hx hb dX5_stateNow_7 rfl ?_
  refine lv_aload_n hx hb dX5_stateNow_8 rfl (lv_at hl 0 rfl) ?_
  refine va_get (D := (dC, dI)) (ci := 4) (v := .ref ht_bench) (C := RX5) (T := TX5) (N := 9) hx hb hts hinX5 hown hK hP 0 rfl rfl 1 (by decide) hw1 (fun _ h9 => h9) rfl dX5_stateNow_9 ?_
  obtain ⟨x1, hx1, hf⟩ := dg_bind hf
  have hPc : va_P (dC, dI) vwCl [(ht_bench, .inr (1, [.ref ht_bench_drops, .ref ht_bench_from, .ref ht_bench_to, .ref ht_bench_tires, .ref ht_bench_copies, .ref ht_bench_pages, .int vt_bench_size])), (ht_bench_from, .inl (cI, 4, .inl vt_bench_from)), (ht_bench_to, .inl (cI, 4, .inl vt_bench_to)), (ht_bench_copies, .inl (cI, 4, .inl vt_bench_copies))] s.heap := hP.sub [1, 2, 3, 4] rfl
  have hDc : va_D A [(ht_bench, .inr (1, [.ref ht_bench_drops, .ref ht_bench_from, .ref ht_bench_to, .ref ht_bench_tires, .ref ht_bench_copies, .ref ht_bench_pages, .int vt_bench_size])), (ht_bench_from, .inl (cI, 4, .inl vt_bench_from)), (ht_bench_to, .inl (cI, 4, .inl vt_bench_to)), (ht_bench_copies, .inl (cI, 4, .inl vt_bench_copies))] := hD.sub [1, 2, 3, 4] (by decide) rfl
  have hFc := va_free (wc := [(ht_bench, .inr (1, [.ref ht_bench_drops, .ref ht_bench_from, .ref ht_bench_to, .ref ht_bench_tires, .ref ht_bench_copies, .ref ht_bench_pages, .int vt_bench_size])), (ht_bench_from, .inl (cI, 4, .inl vt_bench_from)), (ht_bench_to, .inl (cI, 4, .inl vt_bench_to)), (ht_bench_copies, .inl (cI, 4, .inl vt_bench_copies))]) hD hS hA [1, 2, 3, 4] rfl
  refine va_calll (va_runV (As := []) (rest := [.long (vt_spoken.toInt64 <<< ((36:Int32).toInt64 &&& 63))]) ⟨hx, hb, hml, hown, hts⟩ (k_X1_habitsNow l dC dI cI cJ cZ s.heap.size ht_bench ht_bench_drops ht_bench_from ht_bench_to ht_bench_tires ht_bench_copies ht_bench_pages vt_bench_size vt_bench_from vt_bench_to vt_bench_copies N x1 hx1) (cwV 0 hts gX5_stateNow_X1_habitsNow rfl rfl rfl hd_X1_habitsNow ⟨Nat.le_of_ble_eq_true rfl, Nat.le_of_ble_eq_true rfl⟩) ⟨blind_pc, va_recv hK hPc (ci := 1) (q0 := 0) rfl rfl, pre_pc hPc hK hDc⟩ rfl rfl hl.1 rfl (lv_room (Nat.le_of_ble_eq_true rfl)) dX5_stateNow_12 ⟨Nat.zero_le _, Nat.zero_le _⟩) hS (fun q _ h => hFc q h) hFc (fun r u t H1 locs eth hvm hw hB hz1 hk1 hS => ?_)
  obtain ⟨hP1, hK1, hD1⟩ := hB
  rw [eth] at hP1
  subst hw
  obtain ⟨hP, hD⟩ := va_join (wr := [(ht, .inr (4, [.ref ht_text, .ref ht_bench, .ref ht_acts, .ref ht_drawers, .ref ht_told, .ref ht_pagesOfTrial, .ref ht_kept, .int vt_spoken, .long vt_nowSeed]))]) (w1 := [(ht_bench, .inr (1, [.ref ht_bench_drops, .ref ht_bench_from, .ref ht_bench_to, .ref ht_bench_tires, .ref ht_bench_copies, .ref ht_bench_pages, .int vt_bench_size])), (ht_bench_from, .inl (cI, 4, .inl vt_bench_from)), (ht_bench_to, .inl (cI, 4, .inl vt_bench_to)), (ht_bench_copies, .inl (cI, 4, .inl vt_bench_copies))]) hP hD [1, 2, 3, 4] [0] rfl rfl (by decide) (by decide) hk1 hFc hP1 hD1
  clear hP1 hK1 hD1 hPc hDc hFc hk1 hz1 hvm eth
  generalize H1 = H at hP hS ⊢
  have hP : va_P (dC, dI) vwCl [(ht, .inr (4, [.ref ht_text, .ref ht_bench, .ref ht_acts, .ref ht_drawers, .ref ht_told, .ref ht_pagesOfTrial, .ref ht_kept, .int vt_spoken, .long vt_nowSeed])), (ht_bench, .inr (1, [.ref ht_bench_drops, .ref ht_bench_from, .ref ht_bench_to, .ref ht_bench_tires, .ref ht_bench_copies, .ref ht_bench_pages, .int vt_bench_size])), (ht_bench_from, .inl (cI, 4, .inl vt_bench_from)), (ht_bench_to, .inl (cI, 4, .inl vt_bench_to)), (ht_bench_copies, .inl (cI, 4, .inl vt_bench_copies))] H := hP
  have hD : va_D A [(ht, .inr (4, [.ref ht_text, .ref ht_bench, .ref ht_acts, .ref ht_drawers, .ref ht_told, .ref ht_pagesOfTrial, .ref ht_kept, .int vt_spoken, .long vt_nowSeed])), (ht_bench, .inr (1, [.ref ht_bench_drops, .ref ht_bench_from, .ref ht_bench_to, .ref ht_bench_tires, .ref ht_bench_copies, .ref ht_bench_pages, .int vt_bench_size])), (ht_bench_from, .inl (cI, 4, .inl vt_bench_from)), (ht_bench_to, .inl (cI, 4, .inl vt_bench_to)), (ht_bench_copies, .inl (cI, 4, .inl vt_bench_copies))] := hD
  refine lv_lor hx hb dX5_stateNow_15 ?_
  have he := Option.some.inj hf
  have hP9 := hP
  have hD9 := hD
  exact W.lret (v := ((vt_spoken.toInt64 <<< ((36:Int32).toInt64 &&& 63)) ||| x1)) hx hb hr (fun t eth hW => ⟨⟨((vt_spoken.toInt64 <<< ((36:Int32).toInt64 &&& 63)) ||| x1), (), rfl, he.symm, by rw [eth]; exact hP9, va_K.moved hW.alike hK, hD9⟩, hS.F eth⟩) hS.2.2 dX5_stateNow_16
theorem hd_X5_speak : yX5_speak.cls = RX5 ∧ yX5_speak.cls ≠ "java/lang/invoke/MethodHandle" ∧ yX5_speak.cls ≠ "java/lang/invoke/VarHandle" ∧ (parseMethodDescriptor yX5_speak.desc).map (fun d => d.parameters.length) = some 1 := by decide +kernel
abbrev rm_X5_speak : Room := { frames := 2, cells := 0, slots := 0, locals := 102 }
abbrev q_X5_speak (dC : Nat → ClassId) (dI : Nat → Nat → Nat) (cI cJ cZ : ClassId) (ht ht_text ht_bench ht_acts ht_drawers ht_told ht_pagesOfTrial ht_kept ht_bench_drops ht_bench_from ht_bench_to ht_bench_tires ht_bench_copies ht_bench_pages ht_acts_before : Nat) (vt_nowSeed : Int64) (vt_bench_size : Int32) (vt_bench_from : Nat → Int32) (vt_bench_to : Nat → Int32) (vt_bench_copies : Nat → Int32) (R : Int32 × Int32 × Int32 × (Nat → Int64)) (A : Nat → Prop) : Array Value → State → Outcome → State → Prop := va_Qi (fun (r : Int32) (u : Int32 × Int32 × (Nat → Int64)) => R.1 = r ∧ R.2 = u) (fun (u : Int32 × Int32 × (Nat → Int64)) (t : State) => va_P (dC, dI) vwCl [(ht, .inr (4, [.ref ht_text, .ref ht_bench, .ref ht_acts, .ref ht_drawers, .ref ht_told, .ref ht_pagesOfTrial, .ref ht_kept, .int u.1, .long vt_nowSeed])), (ht_bench, .inr (1, [.ref ht_bench_drops, .ref ht_bench_from, .ref ht_bench_to, .ref ht_bench_tires, .ref ht_bench_copies, .ref ht_bench_pages, .int vt_bench_size])), (ht_bench_from, .inl (cI, 4, .inl vt_bench_from)), (ht_bench_to, .inl (cI, 4, .inl vt_bench_to)), (ht_bench_copies, .inl (cI, 4, .inl vt_bench_copies)), (ht_acts, .inr (0, [.ref ht_acts_before, .int u.2.1])), (ht_acts_before, .inl (cJ, 16, .inr (.inl u.2.2)))] t.heap ∧ va_K (dC, dI) vwCl [(cI, .int), (cJ, .long), (cZ, .boolean)] t ∧ va_D A [(ht, .inr (4, [.ref ht_text, .ref ht_bench, .ref ht_acts, .ref ht_drawers, .ref ht_told, .ref ht_pagesOfTrial, .ref ht_kept, .int u.1, .long vt_nowSeed])), (ht_bench, .inr (1, [.ref ht_bench_drops, .ref ht_bench_from, .ref ht_bench_to, .ref ht_bench_tires, .ref ht_bench_copies, .ref ht_bench_pages, .int vt_bench_size])), (ht_bench_from, .inl (cI, 4, .inl vt_bench_from)), (ht_bench_to, .inl (cI, 4, .inl vt_bench_to)), (ht_bench_copies, .inl (cI, 4, .inl vt_bench_copies)), (ht_acts, .inr (0, [.ref ht_acts_before, .int u.2.1])), (ht_acts_before, .inl (cJ, 16, .inr (.inl u.2.2)))]) A
set_option maxHeartbeats 4000000 in
set_option maxRecDepth 100000 in
theorem k_X5_speak (l : Launch) (dC : Nat → ClassId) (dI : Nat → Nat → Nat) (cI cJ cZ : ClassId) (sz : Nat) (ht ht_text ht_bench ht_acts ht_drawers ht_told ht_pagesOfTrial ht_kept ht_bench_drops ht_bench_from ht_bench_to ht_bench_tires ht_bench_copies ht_bench_pages ht_acts_before : Nat) (a1 : Int32) (vt_spoken : Int32) (vt_nowSeed : Int64) (vt_bench_size : Int32) (vt_bench_from : Nat → Int32) (vt_bench_to : Nat → Int32) (vt_bench_copies : Nat → Int32) (vt_acts_size : Int32) (vt_acts_before : Nat → Int64) (N : Nat) (R : Int32 × Int32 × Int32 × (Nat → Int64)) (hf : f_X5_speak N a1 vt_spoken vt_bench_from vt_bench_to vt_bench_copies vt_acts_size vt_acts_before = some R) : Met l yX5_speak wsX5_speak (rm_X5_speak) (va_Pc [.ref ht, .int a1] (fun U => U.heap.size = sz ∧ va_P (dC, dI) vwCl [(ht, .inr (4, [.ref ht_text, .ref ht_bench, .ref ht_acts, .ref ht_drawers, .ref ht_told, .ref ht_pagesOfTrial, .ref ht_kept, .int vt_spoken, .long vt_nowSeed])), (ht_bench, .inr (1, [.ref ht_bench_drops, .ref ht_bench_from, .ref ht_bench_to, .ref ht_bench_tires, .ref ht_bench_copies, .ref ht_bench_pages, .int vt_bench_size])), (ht_bench_from, .inl (cI, 4, .inl vt_bench_from)), (ht_bench_to, .inl (cI, 4, .inl vt_bench_to)), (ht_bench_copies, .inl (cI, 4, .inl vt_bench_copies)), (ht_acts, .inr (0, [.ref ht_acts_before, .int vt_acts_size])), (ht_acts_before, .inl (cJ, 16, .inr (.inl vt_acts_before)))] U.heap ∧ va_K (dC, dI) vwCl [(cI, .int), (cJ, .long), (cZ, .boolean)] U ∧ va_D (fun _ => True) [(ht, .inr (4, [.ref ht_text, .ref ht_bench, .ref ht_acts, .ref ht_drawers, .ref ht_told, .ref ht_pagesOfTrial, .ref ht_kept, .int vt_spoken, .long vt_nowSeed])), (ht_bench, .inr (1, [.ref ht_bench_drops, .ref ht_bench_from, .ref ht_bench_to, .ref ht_bench_tires, .ref ht_bench_copies, .ref ht_bench_pages, .int vt_bench_size])), (ht_bench_from, .inl (cI, 4, .inl vt_bench_from)), (ht_bench_to, .inl (cI, 4, .inl vt_bench_to)), (ht_bench_copies, .inl (cI, 4, .inl vt_bench_copies)), (ht_acts, .inr (0, [.ref ht_acts_before, .int vt_acts_size])), (ht_acts_before, .inl (cJ, 16, .inr (.inl vt_acts_before)))])) (q_X5_speak dC dI cI cJ cZ ht ht_text ht_bench ht_acts ht_drawers ht_told ht_pagesOfTrial ht_kept ht_bench_drops ht_bench_from ht_bench_to ht_bench_tires ht_bench_copies ht_bench_pages ht_acts_before vt_nowSeed vt_bench_size vt_bench_from vt_bench_to vt_bench_copies R (va_A [(ht, .inr (4, [.ref ht_text, .ref ht_bench, .ref ht_acts, .ref ht_drawers, .ref ht_told, .ref ht_pagesOfTrial, .ref ht_kept, .int vt_spoken, .long vt_nowSeed])), (ht_bench, .inr (1, [.ref ht_bench_drops, .ref ht_bench_from, .ref ht_bench_to, .ref ht_bench_tires, .ref ht_bench_copies, .ref ht_bench_pages, .int vt_bench_size])), (ht_bench_from, .inl (cI, 4, .inl vt_bench_from)), (ht_bench_to, .inl (cI, 4, .inl vt_bench_to)), (ht_bench_copies, .inl (cI, 4, .inl vt_bench_copies)), (ht_acts, .inr (0, [.ref ht_acts_before, .int vt_acts_size])), (ht_acts_before, .inl (cJ, 16, .inr (.inl vt_acts_before)))] sz)) 0 0 (va_A [(ht, .inr (4, [.ref ht_text, .ref ht_bench, .ref ht_acts, .ref ht_drawers, .ref ht_told, .ref ht_pagesOfTrial, .ref ht_kept, .int vt_spoken, .long vt_nowSeed])), (ht_bench, .inr (1, [.ref ht_bench_drops, .ref ht_bench_from, .ref ht_bench_to, .ref ht_bench_tires, .ref ht_bench_copies, .ref ht_bench_pages, .int vt_bench_size])), (ht_bench_from, .inl (cI, 4, .inl vt_bench_from)), (ht_bench_to, .inl (cI, 4, .inl vt_bench_to)), (ht_bench_copies, .inl (cI, 4, .inl vt_bench_copies)), (ht_acts, .inr (0, [.ref ht_acts_before, .int vt_acts_size])), (ht_acts_before, .inl (cJ, 16, .inr (.inl vt_acts_before)))] sz) := by
  refine Met.ofW (cc := cX5_speak) (maxL := 2) (ret := (some .int)) (by decide) rfl ?_
  intro p e s m args below meth c s₁ B hml hv
  obtain ⟨rfl, hsz, hP, hK, hD0⟩ := hv
  have hx := B.exec
  have hb := B.bytes
  have hr := B.returns
  have hts := atoms_spec (ws := wsX5_speak) B.pre
  have hown : s.vm.findClass RX5 = some m.cls := findClass_of_methodNamed B.named
  have hlocks := B.notSynchronized
  clear B
  subst hsz
  have hw0 := hts (.fieldLink RX5 50 "ShorthandCourt" "spoken" "I") (by decide +kernel)
  have hw1 := hts (.fieldLink RX5 26 "ShorthandCourt" "acts" "LShorthandCourt$ActRow;") (by decide +kernel)
  have hinX5 : ∀ w ∈ u_ws RX5 TX5 9, w ∈ wsX5_speak := by decide +kernel
  have hD := hD0.self (sz := s.heap.size)
  clear hD0
  generalize hAe : va_A [(ht, .inr (4, [.ref ht_text, .ref ht_bench, .ref ht_acts, .ref ht_drawers, .ref ht_told, .ref ht_pagesOfTrial, .ref ht_kept, .int vt_spoken, .long vt_nowSeed])), (ht_bench, .inr (1, [.ref ht_bench_drops, .ref ht_bench_from, .ref ht_bench_to, .ref ht_bench_tires, .ref ht_bench_copies, .ref ht_bench_pages, .int vt_bench_size])), (ht_bench_from, .inl (cI, 4, .inl vt_bench_from)), (ht_bench_to, .inl (cI, 4, .inl vt_bench_to)), (ht_bench_copies, .inl (cI, 4, .inl vt_bench_copies)), (ht_acts, .inr (0, [.ref ht_acts_before, .int vt_acts_size])), (ht_acts_before, .inl (cJ, 16, .inr (.inl vt_acts_before)))] s.heap.size = A at hD ⊢
  have hA : ∀ q : Nat, s.heap.size ≤ q → A q := fun q h => by rw [← hAe]; exact Or.inr h
  clear hAe
  have hS : va_S A s.heap s.heap [] := va_S.rf
  have hl := lv_entry ([.ref ht, .int a1]) (n := 2) (Nat.le_of_ble_eq_true rfl)
  rw [lg_entry_eq]
  generalize (lg_sl ([.ref ht, .int a1]) ++ List.replicate (2 - (lg_sl ([.ref ht, .int a1])).length) Slot.unset).toArray = ls at hl ⊢
  have hl : lv_has ls 2 [(0, .ref ht), (1, .int a1)] := hl
  unfold f_X5_speak at hf
  refine lv_iload_n hx hb dX5_speak_0 rfl (lv_at hl 1 rfl) ?_
  obtain ⟨x1, hx1, hf⟩ := dg_bind hf
  have hPc : va_P (dC, dI) vwCl [] s.heap := hP.sub [] rfl
  have hDc : va_D A [] := hD.sub [] (by decide) rfl
  have hFc := va_free (wc := []) hD hS hA [] rfl
  refine va_calli (va_runS (As := [.int a1]) (rest := []) ⟨hx, hb, hml, hown, hts⟩ (k_X5_isWord l dC dI cI cJ cZ s.heap.size a1 N x1 hx1) (va_cwS 1 hts gX5_speak_X5_isWord rfl rfl rfl hd_X5_isWord ⟨Nat.le_of_ble_eq_true rfl, Nat.le_of_ble_eq_true rfl⟩) ⟨blind_pc, pre_pc hPc hK hDc⟩ rfl rfl hl.1 rfl (lv_room (Nat.le_of_ble_eq_true rfl)) dX5_speak_1 ⟨Nat.zero_le _, Nat.zero_le _⟩) hS (fun q _ h => hFc q h) hFc (fun r u t H1 locs eth hvm hw hB hz1 hk1 hS => ?_)
  obtain ⟨hP1, hK1, hD1⟩ := hB
  rw [eth] at hP1
  subst hw
  obtain ⟨hP, hD⟩ := va_join (wr := [(ht, .inr (4, [.ref ht_text, .ref ht_bench, .ref ht_acts, .ref ht_drawers, .ref ht_told, .ref ht_pagesOfTrial, .ref ht_kept, .int vt_spoken, .long vt_nowSeed])), (ht_bench, .inr (1, [.ref ht_bench_drops, .ref ht_bench_from, .ref ht_bench_to, .ref ht_bench_tires, .ref ht_bench_copies, .ref ht_bench_pages, .int vt_bench_size])), (ht_bench_from, .inl (cI, 4, .inl vt_bench_from)), (ht_bench_to, .inl (cI, 4, .inl vt_bench_to)), (ht_bench_copies, .inl (cI, 4, .inl vt_bench_copies)), (ht_acts, .inr (0, [.ref ht_acts_before, .int vt_acts_size])), (ht_acts_before, .inl (cJ, 16, .inr (.inl vt_acts_before)))]) (w1 := []) hP hD [] [0, 1, 2, 3, 4, 5, 6] rfl rfl (by decide) (by decide) hk1 hFc hP1 hD1
  clear hP1 hK1 hD1 hPc hDc hFc hk1 hz1 hvm eth
  generalize H1 = H at hP hS ⊢
  have hP : va_P (dC, dI) vwCl [(ht, .inr (4, [.ref ht_text, .ref ht_bench, .ref ht_acts, .ref ht_drawers, .ref ht_told, .ref ht_pagesOfTrial, .ref ht_kept, .int vt_spoken, .long vt_nowSeed])), (ht_bench, .inr (1, [.ref ht_bench_drops, .ref ht_bench_from, .ref ht_bench_to, .ref ht_bench_tires, .ref ht_bench_copies, .ref ht_bench_pages, .int vt_bench_size])), (ht_bench_from, .inl (cI, 4, .inl vt_bench_from)), (ht_bench_to, .inl (cI, 4, .inl vt_bench_to)), (ht_bench_copies, .inl (cI, 4, .inl vt_bench_copies)), (ht_acts, .inr (0, [.ref ht_acts_before, .int vt_acts_size])), (ht_acts_before, .inl (cJ, 16, .inr (.inl vt_acts_before)))] H := hP
  have hD : va_D A [(ht, .inr (4, [.ref ht_text, .ref ht_bench, .ref ht_acts, .ref ht_drawers, .ref ht_told, .ref ht_pagesOfTrial, .ref ht_kept, .int vt_spoken, .long vt_nowSeed])), (ht_bench, .inr (1, [.ref ht_bench_drops, .ref ht_bench_from, .ref ht_bench_to, .ref ht_bench_tires, .ref ht_bench_copies, .ref ht_bench_pages, .int vt_bench_size])), (ht_bench_from, .inl (cI, 4, .inl vt_bench_from)), (ht_bench_to, .inl (cI, 4, .inl vt_bench_to)), (ht_bench_copies, .inl (cI, 4, .inl vt_bench_copies)), (ht_acts, .inr (0, [.ref ht_acts_before, .int vt_acts_size])), (ht_acts_before, .inl (cJ, 16, .inr (.inl vt_acts_before)))] := hD
  refine lv_if_ne (tgt := 10) hx hb dX5_speak_4 (by decide) (fun c2 => ?_) (fun c2 => ?_)
  · replace hf := dg_f c2 hf
    refine lv_aload_n hx hb dX5_speak_10 rfl (lv_at hl 0 rfl) ?_
    refine va_get (D := (dC, dI)) (ci := 4) (v := .int vt_spoken) (C := RX5) (T := TX5) (N := 9) hx hb hts hinX5 hown hK hP 0 rfl rfl 7 (by decide) hw0 (fun _ h9 => h9) rfl dX5_speak_11 ?_
    obtain ⟨x3, hx3, hf⟩ := dg_bind hf
    have hPc : va_P (dC, dI) vwCl [] H := hP.sub [] rfl
    have hDc : va_D A [] := hD.sub [] (by decide) rfl
    have hFc := va_free (wc := []) hD hS hA [] rfl
    refine va_calli (va_runS (As := [.int vt_spoken]) (rest := []) ⟨hx, hb, hml, hown, hts⟩ (k_X4_wordsIn l dC dI cI cJ cZ H.size vt_spoken N x3 hx3) (va_cwS 1 hts gX5_speak_X4_wordsIn rfl rfl rfl hd_X4_wordsIn ⟨Nat.le_of_ble_eq_true rfl, Nat.le_of_ble_eq_true rfl⟩) ⟨blind_pc, pre_pc hPc hK hDc⟩ rfl rfl hl.1 rfl (lv_room (Nat.le_of_ble_eq_true rfl)) dX5_speak_14 ⟨Nat.zero_le _, Nat.zero_le _⟩) hS (fun q _ h => hFc q h) hFc (fun r u t H1 locs eth hvm hw hB hz1 hk1 hS => ?_)
    obtain ⟨hP1, hK1, hD1⟩ := hB
    rw [eth] at hP1
    subst hw
    obtain ⟨hP, hD⟩ := va_join (wr := [(ht, .inr (4, [.ref ht_text, .ref ht_bench, .ref ht_acts, .ref ht_drawers, .ref ht_told, .ref ht_pagesOfTrial, .ref ht_kept, .int vt_spoken, .long vt_nowSeed])), (ht_bench, .inr (1, [.ref ht_bench_drops, .ref ht_bench_from, .ref ht_bench_to, .ref ht_bench_tires, .ref ht_bench_copies, .ref ht_bench_pages, .int vt_bench_size])), (ht_bench_from, .inl (cI, 4, .inl vt_bench_from)), (ht_bench_to, .inl (cI, 4, .inl vt_bench_to)), (ht_bench_copies, .inl (cI, 4, .inl vt_bench_copies)), (ht_acts, .inr (0, [.ref ht_acts_before, .int vt_acts_size])), (ht_acts_before, .inl (cJ, 16, .inr (.inl vt_acts_before)))]) (w1 := []) hP hD [] [0, 1, 2, 3, 4, 5, 6] rfl rfl (by decide) (by decide) hk1 hFc hP1 hD1
    clear hP1 hK1 hD1 hPc hDc hFc hk1 hz1 hvm eth
    generalize H1 = H at hP hS ⊢
    have hP : va_P (dC, dI) vwCl [(ht, .inr (4, [.ref ht_text, .ref ht_bench, .ref ht_acts, .ref ht_drawers, .ref ht_told, .ref ht_pagesOfTrial, .ref ht_kept, .int vt_spoken, .long vt_nowSeed])), (ht_bench, .inr (1, [.ref ht_bench_drops, .ref ht_bench_from, .ref ht_bench_to, .ref ht_bench_tires, .ref ht_bench_copies, .ref ht_bench_pages, .int vt_bench_size])), (ht_bench_from, .inl (cI, 4, .inl vt_bench_from)), (ht_bench_to, .inl (cI, 4, .inl vt_bench_to)), (ht_bench_copies, .inl (cI, 4, .inl vt_bench_copies)), (ht_acts, .inr (0, [.ref ht_acts_before, .int vt_acts_size])), (ht_acts_before, .inl (cJ, 16, .inr (.inl vt_acts_before)))] H := hP
    have hD : va_D A [(ht, .inr (4, [.ref ht_text, .ref ht_bench, .ref ht_acts, .ref ht_drawers, .ref ht_told, .ref ht_pagesOfTrial, .ref ht_kept, .int vt_spoken, .long vt_nowSeed])), (ht_bench, .inr (1, [.ref ht_bench_drops, .ref ht_bench_from, .ref ht_bench_to, .ref ht_bench_tires, .ref ht_bench_copies, .ref ht_bench_pages, .int vt_bench_size])), (ht_bench_from, .inl (cI, 4, .inl vt_bench_from)), (ht_bench_to, .inl (cI, 4, .inl vt_bench_to)), (ht_bench_copies, .inl (cI, 4, .inl vt_bench_copies)), (ht_acts, .inr (0, [.ref ht_acts_before, .int vt_acts_size])), (ht_acts_before, .inl (cJ, 16, .inr (.inl vt_acts_before)))] := hD
    refine lv_bipush (v := 6) hx hb dX5_speak_17 (by decide) ?_
    refine lv_icmp_lt (tgt := 25) hx hb dX5_speak_19 (by decide) (fun c4 => ?_) (fun c4 => ?_)
    · replace hf := dg_t c4 hf
      refine lv_aload_n hx hb dX5_speak_25 rfl (lv_at hl 0 rfl) ?_
      refine va_get (D := (dC, dI)) (ci := 4) (v := .ref ht_acts) (C := RX5) (T := TX5) (N := 9) hx hb hts hinX5 hown hK hP 0 rfl rfl 2 (by decide) hw1 (fun _ h9 => h9) rfl dX5_speak_26 ?_
      refine lv_aload_n hx hb dX5_speak_29 rfl (lv_at hl 0 rfl) ?_
      obtain ⟨x5, hx5, hf⟩ := dg_bind hf
      have hPc : va_P (dC, dI) vwCl [(ht, .inr (4, [.ref ht_text, .ref ht_bench, .ref ht_acts, .ref ht_drawers, .ref ht_told, .ref ht_pagesOfTrial, .ref ht_kept, .int vt_spoken, .long vt_nowSeed])), (ht_bench, .inr (1, [.ref ht_bench_drops, .ref ht_bench_from, .ref ht_bench_to, .ref ht_bench_tires, .ref ht_bench_copies, .ref ht_bench_pages, .int vt_bench_size])), (ht_bench_from, .inl (cI, 4, .inl vt_bench_from)), (ht_bench_to, .inl (cI, 4, .inl vt_bench_to)), (ht_bench_copies, .inl (cI, 4, .inl vt_bench_copies))] H := hP.sub [0, 1, 2, 3, 4] rfl
      have hDc : va_D A [(ht, .inr (4, [.ref ht_text, .ref ht_bench, .ref ht_acts, .ref ht_drawers, .ref ht_told, .ref ht_pagesOfTrial, .ref ht_kept, .int vt_spoken, .long vt_nowSeed])), (ht_bench, .inr (1, [.ref ht_bench_drops, .ref ht_bench_from, .ref ht_bench_to, .ref ht_bench_tires, .ref ht_bench_copies, .ref ht_bench_pages, .int vt_bench_size])), (ht_bench_from, .inl (cI, 4, .inl vt_bench_from)), (ht_bench_to, .inl (cI, 4, .inl vt_bench_to)), (ht_bench_copies, .inl (cI, 4, .inl vt_bench_copies))] := hD.sub [0, 1, 2, 3, 4] (by decide) rfl
      have hFc := va_free (wc := [(ht, .inr (4, [.ref ht_text, .ref ht_bench, .ref ht_acts, .ref ht_drawers, .ref ht_told, .ref ht_pagesOfTrial, .ref ht_kept, .int vt_spoken, .long vt_nowSeed])), (ht_bench, .inr (1, [.ref ht_bench_drops, .ref ht_bench_from, .ref ht_bench_to, .ref ht_bench_tires, .ref ht_bench_copies, .ref ht_bench_pages, .int vt_bench_size])), (ht_bench_from, .inl (cI, 4, .inl vt_bench_from)), (ht_bench_to, .inl (cI, 4, .inl vt_bench_to)), (ht_bench_copies, .inl (cI, 4, .inl vt_bench_copies))]) hD hS hA [0, 1, 2, 3, 4] rfl
      refine va_calll (va_runV (As := []) (rest := [.ref ht_acts]) ⟨hx, hb, hml, hown, hts⟩ (k_X5_stateNow l dC dI cI cJ cZ H.size ht ht_text ht_bench ht_acts ht_drawers ht_told ht_pagesOfTrial ht_kept ht_bench_drops ht_bench_from ht_bench_to ht_bench_tires ht_bench_copies ht_bench_pages vt_spoken vt_nowSeed vt_bench_size vt_bench_from vt_bench_to vt_bench_copies N x5 hx5) (cwV 0 hts gX5_speak_X5_stateNow rfl rfl rfl hd_X5_stateNow ⟨Nat.le_of_ble_eq_true rfl, Nat.le_of_ble_eq_true rfl⟩) ⟨blind_pc, va_recv hK hPc (ci := 4) (q0 := 0) rfl rfl, pre_pc hPc hK hDc⟩ rfl rfl hl.1 rfl (lv_room (Nat.le_of_ble_eq_true rfl)) dX5_speak_30 ⟨Nat.zero_le _, Nat.zero_le _⟩) hS (fun q _ h => hFc q h) hFc (fun r u t H1 locs eth hvm hw hB hz1 hk1 hS => ?_)
      obtain ⟨hP1, hK1, hD1⟩ := hB
      rw [eth] at hP1
      subst hw
      obtain ⟨hP, hD⟩ := va_join (wr := [(ht_acts, .inr (0, [.ref ht_acts_before, .int vt_acts_size])), (ht_acts_before, .inl (cJ, 16, .inr (.inl vt_acts_before)))]) (w1 := [(ht, .inr (4, [.ref ht_text, .ref ht_bench, .ref ht_acts, .ref ht_drawers, .ref ht_told, .ref ht_pagesOfTrial, .ref ht_kept, .int vt_spoken, .long vt_nowSeed])), (ht_bench, .inr (1, [.ref ht_bench_drops, .ref ht_bench_from, .ref ht_bench_to, .ref ht_bench_tires, .ref ht_bench_copies, .ref ht_bench_pages, .int vt_bench_size])), (ht_bench_from, .inl (cI, 4, .inl vt_bench_from)), (ht_bench_to, .inl (cI, 4, .inl vt_bench_to)), (ht_bench_copies, .inl (cI, 4, .inl vt_bench_copies))]) hP hD [0, 1, 2, 3, 4] [5, 6] rfl rfl (by decide) (by decide) hk1 hFc hP1 hD1
      clear hP1 hK1 hD1 hPc hDc hFc hk1 hz1 hvm eth
      generalize H1 = H at hP hS ⊢
      have hP : va_P (dC, dI) vwCl [(ht_acts, .inr (0, [.ref ht_acts_before, .int vt_acts_size])), (ht_acts_before, .inl (cJ, 16, .inr (.inl vt_acts_before))), (ht, .inr (4, [.ref ht_text, .ref ht_bench, .ref ht_acts, .ref ht_drawers, .ref ht_told, .ref ht_pagesOfTrial, .ref ht_kept, .int vt_spoken, .long vt_nowSeed])), (ht_bench, .inr (1, [.ref ht_bench_drops, .ref ht_bench_from, .ref ht_bench_to, .ref ht_bench_tires, .ref ht_bench_copies, .ref ht_bench_pages, .int vt_bench_size])), (ht_bench_from, .inl (cI, 4, .inl vt_bench_from)), (ht_bench_to, .inl (cI, 4, .inl vt_bench_to)), (ht_bench_copies, .inl (cI, 4, .inl vt_bench_copies))] H := hP
      have hD : va_D A [(ht_acts, .inr (0, [.ref ht_acts_before, .int vt_acts_size])), (ht_acts_before, .inl (cJ, 16, .inr (.inl vt_acts_before))), (ht, .inr (4, [.ref ht_text, .ref ht_bench, .ref ht_acts, .ref ht_drawers, .ref ht_told, .ref ht_pagesOfTrial, .ref ht_kept, .int vt_spoken, .long vt_nowSeed])), (ht_bench, .inr (1, [.ref ht_bench_drops, .ref ht_bench_from, .ref ht_bench_to, .ref ht_bench_tires, .ref ht_bench_copies, .ref ht_bench_pages, .int vt_bench_size])), (ht_bench_from, .inl (cI, 4, .inl vt_bench_from)), (ht_bench_to, .inl (cI, 4, .inl vt_bench_to)), (ht_bench_copies, .inl (cI, 4, .inl vt_bench_copies))] := hD
      obtain ⟨x6, hx6, hf⟩ := dg_bind hf
      have hPc : va_P (dC, dI) vwCl [(ht_acts, .inr (0, [.ref ht_acts_before, .int vt_acts_size])), (ht_acts_before, .inl (cJ, 16, .inr (.inl vt_acts_before)))] H := hP.sub [0, 1] rfl
      have hDc : va_D A [(ht_acts, .inr (0, [.ref ht_acts_before, .int vt_acts_size])), (ht_acts_before, .inl (cJ, 16, .inr (.inl vt_acts_before)))] := hD.sub [0, 1] (by decide) rfl
      have hFc := va_free (wc := [(ht_acts, .inr (0, [.ref ht_acts_before, .int vt_acts_size])), (ht_acts_before, .inl (cJ, 16, .inr (.inl vt_acts_before)))]) hD hS hA [0, 1] rfl
      refine va_callv (va_runV (As := [.long x5]) (rest := []) ⟨hx, hb, hml, hown, hts⟩ (k_X0_remember l dC dI cI cJ cZ H.size ht_acts ht_acts_before x5 vt_acts_size vt_acts_before N x6 hx6) (cwV 1 hts gX5_speak_X0_remember rfl rfl rfl hd_X0_remember ⟨Nat.le_of_ble_eq_true rfl, Nat.le_of_ble_eq_true rfl⟩) ⟨blind_pc, va_recv hK hPc (ci := 0) (q0 := 0) rfl rfl, pre_pc hPc hK hDc⟩ rfl rfl hl.1 rfl (lv_room (Nat.le_of_ble_eq_true rfl)) dX5_speak_33 ⟨Nat.zero_le _, Nat.zero_le _⟩) hS (fun q _ h => hFc q h) hFc (fun u t H1 locs eth hvm hw hB hz1 hk1 hS => ?_)
      obtain ⟨hP1, hK1, hD1⟩ := hB
      rw [eth] at hP1
      subst hw
      obtain ⟨hP, hD⟩ := va_join (wr := [(ht, .inr (4, [.ref ht_text, .ref ht_bench, .ref ht_acts, .ref ht_drawers, .ref ht_told, .ref ht_pagesOfTrial, .ref ht_kept, .int vt_spoken, .long vt_nowSeed])), (ht_bench, .inr (1, [.ref ht_bench_drops, .ref ht_bench_from, .ref ht_bench_to, .ref ht_bench_tires, .ref ht_bench_copies, .ref ht_bench_pages, .int vt_bench_size])), (ht_bench_from, .inl (cI, 4, .inl vt_bench_from)), (ht_bench_to, .inl (cI, 4, .inl vt_bench_to)), (ht_bench_copies, .inl (cI, 4, .inl vt_bench_copies))]) (w1 := [(ht_acts, .inr (0, [.ref ht_acts_before, .int x6.1])), (ht_acts_before, .inl (cJ, 16, .inr (.inl x6.2)))]) hP hD [0, 1] [2, 3, 4, 5, 6] rfl rfl (by decide) (by decide) hk1 hFc hP1 hD1
      clear hP1 hK1 hD1 hPc hDc hFc hk1 hz1 hvm eth
      generalize H1 = H at hP hS ⊢
      have hP : va_P (dC, dI) vwCl [(ht, .inr (4, [.ref ht_text, .ref ht_bench, .ref ht_acts, .ref ht_drawers, .ref ht_told, .ref ht_pagesOfTrial, .ref ht_kept, .int vt_spoken, .long vt_nowSeed])), (ht_bench, .inr (1, [.ref ht_bench_drops, .ref ht_bench_from, .ref ht_bench_to, .ref ht_bench_tires, .ref ht_bench_copies, .ref ht_bench_pages, .int vt_bench_size])), (ht_bench_from, .inl (cI, 4, .inl vt_bench_from)), (ht_bench_to, .inl (cI, 4, .inl vt_bench_to)), (ht_bench_copies, .inl (cI, 4, .inl vt_bench_copies)), (ht_acts, .inr (0, [.ref ht_acts_before, .int x6.1])), (ht_acts_before, .inl (cJ, 16, .inr (.inl x6.2)))] H := hP
      have hD : va_D A [(ht, .inr (4, [.ref ht_text, .ref ht_bench, .ref ht_acts, .ref ht_drawers, .ref ht_told, .ref ht_pagesOfTrial, .ref ht_kept, .int vt_spoken, .long vt_nowSeed])), (ht_bench, .inr (1, [.ref ht_bench_drops, .ref ht_bench_from, .ref ht_bench_to, .ref ht_bench_tires, .ref ht_bench_copies, .ref ht_bench_pages, .int vt_bench_size])), (ht_bench_from, .inl (cI, 4, .inl vt_bench_from)), (ht_bench_to, .inl (cI, 4, .inl vt_bench_to)), (ht_bench_copies, .inl (cI, 4, .inl vt_bench_copies)), (ht_acts, .inr (0, [.ref ht_acts_before, .int x6.1])), (ht_acts_before, .inl (cJ, 16, .inr (.inl x6.2)))] := hD
      refine lv_aload_n hx hb dX5_speak_36 rfl (lv_at hl 0 rfl) ?_
      refine lv_aload_n hx hb dX5_speak_37 rfl (lv_at hl 0 rfl) ?_
      refine va_get (D := (dC, dI)) (ci := 4) (v := .int vt_spoken) (C := RX5) (T := TX5) (N := 9) hx hb hts hinX5 hown hK hP 0 rfl rfl 7 (by decide) hw0 (fun _ h9 => h9) rfl dX5_speak_38 ?_
      refine lv_iload_n hx hb dX5_speak_41 rfl (lv_at hl 1 rfl) ?_
      obtain ⟨x7, hx7, hf⟩ := dg_bind hf
      have hPc : va_P (dC, dI) vwCl [] H := hP.sub [] rfl
      have hDc : va_D A [] := hD.sub [] (by decide) rfl
      have hFc := va_free (wc := []) hD hS hA [] rfl
      refine va_calli (va_runS (As := [.int vt_spoken, .int a1]) (rest := [.ref ht]) ⟨hx, hb, hml, hown, hts⟩ (k_X4_with l dC dI cI cJ cZ H.size vt_spoken a1 N x7 hx7) (va_cwS 2 hts gX5_speak_X4_with rfl rfl rfl hd_X4_with ⟨Nat.le_of_ble_eq_true rfl, Nat.le_of_ble_eq_true rfl⟩) ⟨blind_pc, pre_pc hPc hK hDc⟩ rfl rfl hl.1 rfl (lv_room (Nat.le_of_ble_eq_true rfl)) dX5_speak_42 ⟨Nat.zero_le _, Nat.zero_le _⟩) hS (fun q _ h => hFc q h) hFc (fun r u t H1 locs eth hvm hw hB hz1 hk1 hS => ?_)
      obtain ⟨hP1, hK1, hD1⟩ := hB
      rw [eth] at hP1
      subst hw
      obtain ⟨hP, hD⟩ := va_join (wr := [(ht, .inr (4, [.ref ht_text, .ref ht_bench, .ref ht_acts, .ref ht_drawers, .ref ht_told, .ref ht_pagesOfTrial, .ref ht_kept, .int vt_spoken, .long vt_nowSeed])), (ht_bench, .inr (1, [.ref ht_bench_drops, .ref ht_bench_from, .ref ht_bench_to, .ref ht_bench_tires, .ref ht_bench_copies, .ref ht_bench_pages, .int vt_bench_size])), (ht_bench_from, .inl (cI, 4, .inl vt_bench_from)), (ht_bench_to, .inl (cI, 4, .inl vt_bench_to)), (ht_bench_copies, .inl (cI, 4, .inl vt_bench_copies)), (ht_acts, .inr (0, [.ref ht_acts_before, .int x6.1])), (ht_acts_before, .inl (cJ, 16, .inr (.inl x6.2)))]) (w1 := []) hP hD [] [0, 1, 2, 3, 4, 5, 6] rfl rfl (by decide) (by decide) hk1 hFc hP1 hD1
      clear hP1 hK1 hD1 hPc hDc hFc hk1 hz1 hvm eth
      generalize H1 = H at hP hS ⊢
      have hP : va_P (dC, dI) vwCl [(ht, .inr (4, [.ref ht_text, .ref ht_bench, .ref ht_acts, .ref ht_drawers, .ref ht_told, .ref ht_pagesOfTrial, .ref ht_kept, .int vt_spoken, .long vt_nowSeed])), (ht_bench, .inr (1, [.ref ht_bench_drops, .ref ht_bench_from, .ref ht_bench_to, .ref ht_bench_tires, .ref ht_bench_copies, .ref ht_bench_pages, .int vt_bench_size])), (ht_bench_from, .inl (cI, 4, .inl vt_bench_from)), (ht_bench_to, .inl (cI, 4, .inl vt_bench_to)), (ht_bench_copies, .inl (cI, 4, .inl vt_bench_copies)), (ht_acts, .inr (0, [.ref ht_acts_before, .int x6.1])), (ht_acts_before, .inl (cJ, 16, .inr (.inl x6.2)))] H := hP
      have hD : va_D A [(ht, .inr (4, [.ref ht_text, .ref ht_bench, .ref ht_acts, .ref ht_drawers, .ref ht_told, .ref ht_pagesOfTrial, .ref ht_kept, .int vt_spoken, .long vt_nowSeed])), (ht_bench, .inr (1, [.ref ht_bench_drops, .ref ht_bench_from, .ref ht_bench_to, .ref ht_bench_tires, .ref ht_bench_copies, .ref ht_bench_pages, .int vt_bench_size])), (ht_bench_from, .inl (cI, 4, .inl vt_bench_from)), (ht_bench_to, .inl (cI, 4, .inl vt_bench_to)), (ht_bench_copies, .inl (cI, 4, .inl vt_bench_copies)), (ht_acts, .inr (0, [.ref ht_acts_before, .int x6.1])), (ht_acts_before, .inl (cJ, 16, .inr (.inl x6.2)))] := hD
      refine va_put (D := (dC, dI)) (ci := 4) (v := .int x7) (ty := .int) (C := RX5) (T := TX5) (N := 9) hx hb hts hinX5 tyX5 tyX5_ok nmX5 hown hK hP hD hS 0 rfl rfl 7 (by decide) hw0 (fun _ h9 => h9) rfl (by decide +kernel) rfl rfl (Nat.le_of_ble_eq_true rfl) dX5_speak_45 (fun H locs hP hD hS => ?_)
      have hP : va_P (dC, dI) vwCl [(ht, .inr (4, [.ref ht_text, .ref ht_bench, .ref ht_acts, .ref ht_drawers, .ref ht_told, .ref ht_pagesOfTrial, .ref ht_kept, .int x7, .long vt_nowSeed])), (ht_bench, .inr (1, [.ref ht_bench_drops, .ref ht_bench_from, .ref ht_bench_to, .ref ht_bench_tires, .ref ht_bench_copies, .ref ht_bench_pages, .int vt_bench_size])), (ht_bench_from, .inl (cI, 4, .inl vt_bench_from)), (ht_bench_to, .inl (cI, 4, .inl vt_bench_to)), (ht_bench_copies, .inl (cI, 4, .inl vt_bench_copies)), (ht_acts, .inr (0, [.ref ht_acts_before, .int x6.1])), (ht_acts_before, .inl (cJ, 16, .inr (.inl x6.2)))] H := hP
      have hD : va_D A [(ht, .inr (4, [.ref ht_text, .ref ht_bench, .ref ht_acts, .ref ht_drawers, .ref ht_told, .ref ht_pagesOfTrial, .ref ht_kept, .int x7, .long vt_nowSeed])), (ht_bench, .inr (1, [.ref ht_bench_drops, .ref ht_bench_from, .ref ht_bench_to, .ref ht_bench_tires, .ref ht_bench_copies, .ref ht_bench_pages, .int vt_bench_size])), (ht_bench_from, .inl (cI, 4, .inl vt_bench_from)), (ht_bench_to, .inl (cI, 4, .inl vt_bench_to)), (ht_bench_copies, .inl (cI, 4, .inl vt_bench_copies)), (ht_acts, .inr (0, [.ref ht_acts_before, .int x6.1])), (ht_acts_before, .inl (cJ, 16, .inr (.inl x6.2)))] := hD
      refine lv_aload_n hx hb dX5_speak_48 rfl (lv_at hl 0 rfl) ?_
      refine va_get (D := (dC, dI)) (ci := 4) (v := .int x7) (C := RX5) (T := TX5) (N := 9) hx hb hts hinX5 hown hK hP 0 rfl rfl 7 (by decide) hw0 (fun _ h9 => h9) rfl dX5_speak_49 ?_
      obtain ⟨x8, hx8, hf⟩ := dg_bind hf
      have hPc : va_P (dC, dI) vwCl [] H := hP.sub [] rfl
      have hDc : va_D A [] := hD.sub [] (by decide) rfl
      have hFc := va_free (wc := []) hD hS hA [] rfl
      refine va_calli (va_runS (As := [.int x7]) (rest := []) ⟨hx, hb, hml, hown, hts⟩ (k_X4_wordsIn l dC dI cI cJ cZ H.size x7 N x8 hx8) (va_cwS 1 hts gX5_speak_X4_wordsIn rfl rfl rfl hd_X4_wordsIn ⟨Nat.le_of_ble_eq_true rfl, Nat.le_of_ble_eq_true rfl⟩) ⟨blind_pc, pre_pc hPc hK hDc⟩ rfl rfl hl.1 rfl (lv_room (Nat.le_of_ble_eq_true rfl)) dX5_speak_52 ⟨Nat.zero_le _, Nat.zero_le _⟩) hS (fun q _ h => hFc q h) hFc (fun r u t H1 locs eth hvm hw hB hz1 hk1 hS => ?_)
      obtain ⟨hP1, hK1, hD1⟩ := hB
      rw [eth] at hP1
      subst hw
      obtain ⟨hP, hD⟩ := va_join (wr := [(ht, .inr (4, [.ref ht_text, .ref ht_bench, .ref ht_acts, .ref ht_drawers, .ref ht_told, .ref ht_pagesOfTrial, .ref ht_kept, .int x7, .long vt_nowSeed])), (ht_bench, .inr (1, [.ref ht_bench_drops, .ref ht_bench_from, .ref ht_bench_to, .ref ht_bench_tires, .ref ht_bench_copies, .ref ht_bench_pages, .int vt_bench_size])), (ht_bench_from, .inl (cI, 4, .inl vt_bench_from)), (ht_bench_to, .inl (cI, 4, .inl vt_bench_to)), (ht_bench_copies, .inl (cI, 4, .inl vt_bench_copies)), (ht_acts, .inr (0, [.ref ht_acts_before, .int x6.1])), (ht_acts_before, .inl (cJ, 16, .inr (.inl x6.2)))]) (w1 := []) hP hD [] [0, 1, 2, 3, 4, 5, 6] rfl rfl (by decide) (by decide) hk1 hFc hP1 hD1
      clear hP1 hK1 hD1 hPc hDc hFc hk1 hz1 hvm eth
      generalize H1 = H at hP hS ⊢
      have hP : va_P (dC, dI) vwCl [(ht, .inr (4, [.ref ht_text, .ref ht_bench, .ref ht_acts, .ref ht_drawers, .ref ht_told, .ref ht_pagesOfTrial, .ref ht_kept, .int x7, .long vt_nowSeed])), (ht_bench, .inr (1, [.ref ht_bench_drops, .ref ht_bench_from, .ref ht_bench_to, .ref ht_bench_tires, .ref ht_bench_copies, .ref ht_bench_pages, .int vt_bench_size])), (ht_bench_from, .inl (cI, 4, .inl vt_bench_from)), (ht_bench_to, .inl (cI, 4, .inl vt_bench_to)), (ht_bench_copies, .inl (cI, 4, .inl vt_bench_copies)), (ht_acts, .inr (0, [.ref ht_acts_before, .int x6.1])), (ht_acts_before, .inl (cJ, 16, .inr (.inl x6.2)))] H := hP
      have hD : va_D A [(ht, .inr (4, [.ref ht_text, .ref ht_bench, .ref ht_acts, .ref ht_drawers, .ref ht_told, .ref ht_pagesOfTrial, .ref ht_kept, .int x7, .long vt_nowSeed])), (ht_bench, .inr (1, [.ref ht_bench_drops, .ref ht_bench_from, .ref ht_bench_to, .ref ht_bench_tires, .ref ht_bench_copies, .ref ht_bench_pages, .int vt_bench_size])), (ht_bench_from, .inl (cI, 4, .inl vt_bench_from)), (ht_bench_to, .inl (cI, 4, .inl vt_bench_to)), (ht_bench_copies, .inl (cI, 4, .inl vt_bench_copies)), (ht_acts, .inr (0, [.ref ht_acts_before, .int x6.1])), (ht_acts_before, .inl (cJ, 16, .inr (.inl x6.2)))] := hD
      have he := Option.some.inj hf
      have hP9 := hP
      have hD9 := hD
      exact W.iret (v := x8) hx hb hr (fun t eth hW => ⟨⟨x8, (x7, x6.1, x6.2), rfl, ⟨(congrArg Prod.fst he).symm, (congrArg Prod.snd he).symm⟩, by rw [eth]; exact hP9, va_K.moved hW.alike hK, hD9⟩, hS.F eth⟩) hS.2.2 dX5_speak_55
    · replace hf := dg_f c4 hf
      refine lv_bipush (v := -4) hx hb dX5_speak_22 (by decide) ?_
      have he := Option.some.inj hf
      have hP9 := hP
      have hD9 := hD
      exact W.iret (v := (-4:Int32)) hx hb hr (fun t eth hW => ⟨⟨(-4:Int32), (vt_spoken, vt_acts_size, vt_acts_before), rfl, ⟨(congrArg Prod.fst he).symm, (congrArg Prod.snd he).symm⟩, by rw [eth]; exact hP9, va_K.moved hW.alike hK, hD9⟩, hS.F eth⟩) hS.2.2 dX5_speak_24
  · replace hf := dg_t c2 hf
    refine lv_bipush (v := -2) hx hb dX5_speak_7 (by decide) ?_
    have he := Option.some.inj hf
    have hP9 := hP
    have hD9 := hD
    exact W.iret (v := (-2:Int32)) hx hb hr (fun t eth hW => ⟨⟨(-2:Int32), (vt_spoken, vt_acts_size, vt_acts_before), rfl, ⟨(congrArg Prod.fst he).symm, (congrArg Prod.snd he).symm⟩, by rw [eth]; exact hP9, va_K.moved hW.alike hK, hD9⟩, hS.F eth⟩) hS.2.2 dX5_speak_9
theorem hd_X5_strike : yX5_strike.cls = RX5 ∧ yX5_strike.cls ≠ "java/lang/invoke/MethodHandle" ∧ yX5_strike.cls ≠ "java/lang/invoke/VarHandle" ∧ (parseMethodDescriptor yX5_strike.desc).map (fun d => d.parameters.length) = some 0 := by decide +kernel
abbrev rm_X5_strike : Room := { frames := 2, cells := 0, slots := 0, locals := 102 }
abbrev q_X5_strike (dC : Nat → ClassId) (dI : Nat → Nat → Nat) (cI cJ cZ : ClassId) (ht ht_text ht_bench ht_acts ht_drawers ht_told ht_pagesOfTrial ht_kept ht_bench_drops ht_bench_from ht_bench_to ht_bench_tires ht_bench_copies ht_bench_pages ht_acts_before : Nat) (vt_nowSeed : Int64) (vt_bench_size : Int32) (vt_bench_from : Nat → Int32) (vt_bench_to : Nat → Int32) (vt_bench_copies : Nat → Int32) (R : Int32 × Int32 × Int32 × (Nat → Int64)) (A : Nat → Prop) : Array Value → State → Outcome → State → Prop := va_Qi (fun (r : Int32) (u : Int32 × Int32 × (Nat → Int64)) => R.1 = r ∧ R.2 = u) (fun (u : Int32 × Int32 × (Nat → Int64)) (t : State) => va_P (dC, dI) vwCl [(ht, .inr (4, [.ref ht_text, .ref ht_bench, .ref ht_acts, .ref ht_drawers, .ref ht_told, .ref ht_pagesOfTrial, .ref ht_kept, .int u.1, .long vt_nowSeed])), (ht_bench, .inr (1, [.ref ht_bench_drops, .ref ht_bench_from, .ref ht_bench_to, .ref ht_bench_tires, .ref ht_bench_copies, .ref ht_bench_pages, .int vt_bench_size])), (ht_bench_from, .inl (cI, 4, .inl vt_bench_from)), (ht_bench_to, .inl (cI, 4, .inl vt_bench_to)), (ht_bench_copies, .inl (cI, 4, .inl vt_bench_copies)), (ht_acts, .inr (0, [.ref ht_acts_before, .int u.2.1])), (ht_acts_before, .inl (cJ, 16, .inr (.inl u.2.2)))] t.heap ∧ va_K (dC, dI) vwCl [(cI, .int), (cJ, .long), (cZ, .boolean)] t ∧ va_D A [(ht, .inr (4, [.ref ht_text, .ref ht_bench, .ref ht_acts, .ref ht_drawers, .ref ht_told, .ref ht_pagesOfTrial, .ref ht_kept, .int u.1, .long vt_nowSeed])), (ht_bench, .inr (1, [.ref ht_bench_drops, .ref ht_bench_from, .ref ht_bench_to, .ref ht_bench_tires, .ref ht_bench_copies, .ref ht_bench_pages, .int vt_bench_size])), (ht_bench_from, .inl (cI, 4, .inl vt_bench_from)), (ht_bench_to, .inl (cI, 4, .inl vt_bench_to)), (ht_bench_copies, .inl (cI, 4, .inl vt_bench_copies)), (ht_acts, .inr (0, [.ref ht_acts_before, .int u.2.1])), (ht_acts_before, .inl (cJ, 16, .inr (.inl u.2.2)))]) A
set_option maxHeartbeats 4000000 in
set_option maxRecDepth 100000 in
theorem k_X5_strike (l : Launch) (dC : Nat → ClassId) (dI : Nat → Nat → Nat) (cI cJ cZ : ClassId) (sz : Nat) (ht ht_text ht_bench ht_acts ht_drawers ht_told ht_pagesOfTrial ht_kept ht_bench_drops ht_bench_from ht_bench_to ht_bench_tires ht_bench_copies ht_bench_pages ht_acts_before : Nat) (vt_spoken : Int32) (vt_nowSeed : Int64) (vt_bench_size : Int32) (vt_bench_from : Nat → Int32) (vt_bench_to : Nat → Int32) (vt_bench_copies : Nat → Int32) (vt_acts_size : Int32) (vt_acts_before : Nat → Int64) (N : Nat) (R : Int32 × Int32 × Int32 × (Nat → Int64)) (hf : f_X5_strike N vt_spoken vt_bench_from vt_bench_to vt_bench_copies vt_acts_size vt_acts_before = some R) : Met l yX5_strike wsX5_strike (rm_X5_strike) (va_Pc [.ref ht] (fun U => U.heap.size = sz ∧ va_P (dC, dI) vwCl [(ht, .inr (4, [.ref ht_text, .ref ht_bench, .ref ht_acts, .ref ht_drawers, .ref ht_told, .ref ht_pagesOfTrial, .ref ht_kept, .int vt_spoken, .long vt_nowSeed])), (ht_bench, .inr (1, [.ref ht_bench_drops, .ref ht_bench_from, .ref ht_bench_to, .ref ht_bench_tires, .ref ht_bench_copies, .ref ht_bench_pages, .int vt_bench_size])), (ht_bench_from, .inl (cI, 4, .inl vt_bench_from)), (ht_bench_to, .inl (cI, 4, .inl vt_bench_to)), (ht_bench_copies, .inl (cI, 4, .inl vt_bench_copies)), (ht_acts, .inr (0, [.ref ht_acts_before, .int vt_acts_size])), (ht_acts_before, .inl (cJ, 16, .inr (.inl vt_acts_before)))] U.heap ∧ va_K (dC, dI) vwCl [(cI, .int), (cJ, .long), (cZ, .boolean)] U ∧ va_D (fun _ => True) [(ht, .inr (4, [.ref ht_text, .ref ht_bench, .ref ht_acts, .ref ht_drawers, .ref ht_told, .ref ht_pagesOfTrial, .ref ht_kept, .int vt_spoken, .long vt_nowSeed])), (ht_bench, .inr (1, [.ref ht_bench_drops, .ref ht_bench_from, .ref ht_bench_to, .ref ht_bench_tires, .ref ht_bench_copies, .ref ht_bench_pages, .int vt_bench_size])), (ht_bench_from, .inl (cI, 4, .inl vt_bench_from)), (ht_bench_to, .inl (cI, 4, .inl vt_bench_to)), (ht_bench_copies, .inl (cI, 4, .inl vt_bench_copies)), (ht_acts, .inr (0, [.ref ht_acts_before, .int vt_acts_size])), (ht_acts_before, .inl (cJ, 16, .inr (.inl vt_acts_before)))])) (q_X5_strike dC dI cI cJ cZ ht ht_text ht_bench ht_acts ht_drawers ht_told ht_pagesOfTrial ht_kept ht_bench_drops ht_bench_from ht_bench_to ht_bench_tires ht_bench_copies ht_bench_pages ht_acts_before vt_nowSeed vt_bench_size vt_bench_from vt_bench_to vt_bench_copies R (va_A [(ht, .inr (4, [.ref ht_text, .ref ht_bench, .ref ht_acts, .ref ht_drawers, .ref ht_told, .ref ht_pagesOfTrial, .ref ht_kept, .int vt_spoken, .long vt_nowSeed])), (ht_bench, .inr (1, [.ref ht_bench_drops, .ref ht_bench_from, .ref ht_bench_to, .ref ht_bench_tires, .ref ht_bench_copies, .ref ht_bench_pages, .int vt_bench_size])), (ht_bench_from, .inl (cI, 4, .inl vt_bench_from)), (ht_bench_to, .inl (cI, 4, .inl vt_bench_to)), (ht_bench_copies, .inl (cI, 4, .inl vt_bench_copies)), (ht_acts, .inr (0, [.ref ht_acts_before, .int vt_acts_size])), (ht_acts_before, .inl (cJ, 16, .inr (.inl vt_acts_before)))] sz)) 0 0 (va_A [(ht, .inr (4, [.ref ht_text, .ref ht_bench, .ref ht_acts, .ref ht_drawers, .ref ht_told, .ref ht_pagesOfTrial, .ref ht_kept, .int vt_spoken, .long vt_nowSeed])), (ht_bench, .inr (1, [.ref ht_bench_drops, .ref ht_bench_from, .ref ht_bench_to, .ref ht_bench_tires, .ref ht_bench_copies, .ref ht_bench_pages, .int vt_bench_size])), (ht_bench_from, .inl (cI, 4, .inl vt_bench_from)), (ht_bench_to, .inl (cI, 4, .inl vt_bench_to)), (ht_bench_copies, .inl (cI, 4, .inl vt_bench_copies)), (ht_acts, .inr (0, [.ref ht_acts_before, .int vt_acts_size])), (ht_acts_before, .inl (cJ, 16, .inr (.inl vt_acts_before)))] sz) := by
  refine Met.ofW (cc := cX5_strike) (maxL := 2) (ret := (some .int)) (by decide) rfl ?_
  intro p e s m args below meth c s₁ B hml hv
  obtain ⟨rfl, hsz, hP, hK, hD0⟩ := hv
  have hx := B.exec
  have hb := B.bytes
  have hr := B.returns
  have hts := atoms_spec (ws := wsX5_strike) B.pre
  have hown : s.vm.findClass RX5 = some m.cls := findClass_of_methodNamed B.named
  have hlocks := B.notSynchronized
  clear B
  subst hsz
  have hw0 := hts (.fieldLink RX5 50 "ShorthandCourt" "spoken" "I") (by decide +kernel)
  have hw1 := hts (.fieldLink RX5 26 "ShorthandCourt" "acts" "LShorthandCourt$ActRow;") (by decide +kernel)
  have hinX5 : ∀ w ∈ u_ws RX5 TX5 9, w ∈ wsX5_strike := by decide +kernel
  have hD := hD0.self (sz := s.heap.size)
  clear hD0
  generalize hAe : va_A [(ht, .inr (4, [.ref ht_text, .ref ht_bench, .ref ht_acts, .ref ht_drawers, .ref ht_told, .ref ht_pagesOfTrial, .ref ht_kept, .int vt_spoken, .long vt_nowSeed])), (ht_bench, .inr (1, [.ref ht_bench_drops, .ref ht_bench_from, .ref ht_bench_to, .ref ht_bench_tires, .ref ht_bench_copies, .ref ht_bench_pages, .int vt_bench_size])), (ht_bench_from, .inl (cI, 4, .inl vt_bench_from)), (ht_bench_to, .inl (cI, 4, .inl vt_bench_to)), (ht_bench_copies, .inl (cI, 4, .inl vt_bench_copies)), (ht_acts, .inr (0, [.ref ht_acts_before, .int vt_acts_size])), (ht_acts_before, .inl (cJ, 16, .inr (.inl vt_acts_before)))] s.heap.size = A at hD ⊢
  have hA : ∀ q : Nat, s.heap.size ≤ q → A q := fun q h => by rw [← hAe]; exact Or.inr h
  clear hAe
  have hS : va_S A s.heap s.heap [] := va_S.rf
  have hl := lv_entry ([.ref ht]) (n := 2) (Nat.le_of_ble_eq_true rfl)
  rw [lg_entry_eq]
  generalize (lg_sl ([.ref ht]) ++ List.replicate (2 - (lg_sl ([.ref ht])).length) Slot.unset).toArray = ls at hl ⊢
  have hl : lv_has ls 2 [(0, .ref ht)] := hl
  unfold f_X5_strike at hf
  refine lv_aload_n hx hb dX5_strike_0 rfl (lv_at hl 0 rfl) ?_
  refine va_get (D := (dC, dI)) (ci := 4) (v := .int vt_spoken) (C := RX5) (T := TX5) (N := 9) hx hb hts hinX5 hown hK hP 0 rfl rfl 7 (by decide) hw0 (fun _ h9 => h9) rfl dX5_strike_1 ?_
  refine lv_iconst (v := 1) hx hb dX5_strike_4 (by decide) ?_
  refine lv_icmp_ne (tgt := 11) hx hb dX5_strike_5 (by decide) (fun c1 => ?_) (fun c1 => ?_)
  · replace hf := dg_f c1 hf
    refine lv_aload_n hx hb dX5_strike_11 rfl (lv_at hl 0 rfl) ?_
    refine va_get (D := (dC, dI)) (ci := 4) (v := .ref ht_acts) (C := RX5) (T := TX5) (N := 9) hx hb hts hinX5 hown hK hP 0 rfl rfl 2 (by decide) hw1 (fun _ h9 => h9) rfl dX5_strike_12 ?_
    refine lv_aload_n hx hb dX5_strike_15 rfl (lv_at hl 0 rfl) ?_
    obtain ⟨x2, hx2, hf⟩ := dg_bind hf
    have hPc : va_P (dC, dI) vwCl [(ht, .inr (4, [.ref ht_text, .ref ht_bench, .ref ht_acts, .ref ht_drawers, .ref ht_told, .ref ht_pagesOfTrial, .ref ht_kept, .int vt_spoken, .long vt_nowSeed])), (ht_bench, .inr (1, [.ref ht_bench_drops, .ref ht_bench_from, .ref ht_bench_to, .ref ht_bench_tires, .ref ht_bench_copies, .ref ht_bench_pages, .int vt_bench_size])), (ht_bench_from, .inl (cI, 4, .inl vt_bench_from)), (ht_bench_to, .inl (cI, 4, .inl vt_bench_to)), (ht_bench_copies, .inl (cI, 4, .inl vt_bench_copies))] s.heap := hP.sub [0, 1, 2, 3, 4] rfl
    have hDc : va_D A [(ht, .inr (4, [.ref ht_text, .ref ht_bench, .ref ht_acts, .ref ht_drawers, .ref ht_told, .ref ht_pagesOfTrial, .ref ht_kept, .int vt_spoken, .long vt_nowSeed])), (ht_bench, .inr (1, [.ref ht_bench_drops, .ref ht_bench_from, .ref ht_bench_to, .ref ht_bench_tires, .ref ht_bench_copies, .ref ht_bench_pages, .int vt_bench_size])), (ht_bench_from, .inl (cI, 4, .inl vt_bench_from)), (ht_bench_to, .inl (cI, 4, .inl vt_bench_to)), (ht_bench_copies, .inl (cI, 4, .inl vt_bench_copies))] := hD.sub [0, 1, 2, 3, 4] (by decide) rfl
    have hFc := va_free (wc := [(ht, .inr (4, [.ref ht_text, .ref ht_bench, .ref ht_acts, .ref ht_drawers, .ref ht_told, .ref ht_pagesOfTrial, .ref ht_kept, .int vt_spoken, .long vt_nowSeed])), (ht_bench, .inr (1, [.ref ht_bench_drops, .ref ht_bench_from, .ref ht_bench_to, .ref ht_bench_tires, .ref ht_bench_copies, .ref ht_bench_pages, .int vt_bench_size])), (ht_bench_from, .inl (cI, 4, .inl vt_bench_from)), (ht_bench_to, .inl (cI, 4, .inl vt_bench_to)), (ht_bench_copies, .inl (cI, 4, .inl vt_bench_copies))]) hD hS hA [0, 1, 2, 3, 4] rfl
    refine va_calll (va_runV (As := []) (rest := [.ref ht_acts]) ⟨hx, hb, hml, hown, hts⟩ (k_X5_stateNow l dC dI cI cJ cZ s.heap.size ht ht_text ht_bench ht_acts ht_drawers ht_told ht_pagesOfTrial ht_kept ht_bench_drops ht_bench_from ht_bench_to ht_bench_tires ht_bench_copies ht_bench_pages vt_spoken vt_nowSeed vt_bench_size vt_bench_from vt_bench_to vt_bench_copies N x2 hx2) (cwV 0 hts gX5_strike_X5_stateNow rfl rfl rfl hd_X5_stateNow ⟨Nat.le_of_ble_eq_true rfl, Nat.le_of_ble_eq_true rfl⟩) ⟨blind_pc, va_recv hK hPc (ci := 4) (q0 := 0) rfl rfl, pre_pc hPc hK hDc⟩ rfl rfl hl.1 rfl (lv_room (Nat.le_of_ble_eq_true rfl)) dX5_strike_16 ⟨Nat.zero_le _, Nat.zero_le _⟩) hS (fun q _ h => hFc q h) hFc (fun r u t H1 locs eth hvm hw hB hz1 hk1 hS => ?_)
    obtain ⟨hP1, hK1, hD1⟩ := hB
    rw [eth] at hP1
    subst hw
    obtain ⟨hP, hD⟩ := va_join (wr := [(ht_acts, .inr (0, [.ref ht_acts_before, .int vt_acts_size])), (ht_acts_before, .inl (cJ, 16, .inr (.inl vt_acts_before)))]) (w1 := [(ht, .inr (4, [.ref ht_text, .ref ht_bench, .ref ht_acts, .ref ht_drawers, .ref ht_told, .ref ht_pagesOfTrial, .ref ht_kept, .int vt_spoken, .long vt_nowSeed])), (ht_bench, .inr (1, [.ref ht_bench_drops, .ref ht_bench_from, .ref ht_bench_to, .ref ht_bench_tires, .ref ht_bench_copies, .ref ht_bench_pages, .int vt_bench_size])), (ht_bench_from, .inl (cI, 4, .inl vt_bench_from)), (ht_bench_to, .inl (cI, 4, .inl vt_bench_to)), (ht_bench_copies, .inl (cI, 4, .inl vt_bench_copies))]) hP hD [0, 1, 2, 3, 4] [5, 6] rfl rfl (by decide) (by decide) hk1 hFc hP1 hD1
    clear hP1 hK1 hD1 hPc hDc hFc hk1 hz1 hvm eth
    generalize H1 = H at hP hS ⊢
    have hP : va_P (dC, dI) vwCl [(ht_acts, .inr (0, [.ref ht_acts_before, .int vt_acts_size])), (ht_acts_before, .inl (cJ, 16, .inr (.inl vt_acts_before))), (ht, .inr (4, [.ref ht_text, .ref ht_bench, .ref ht_acts, .ref ht_drawers, .ref ht_told, .ref ht_pagesOfTrial, .ref ht_kept, .int vt_spoken, .long vt_nowSeed])), (ht_bench, .inr (1, [.ref ht_bench_drops, .ref ht_bench_from, .ref ht_bench_to, .ref ht_bench_tires, .ref ht_bench_copies, .ref ht_bench_pages, .int vt_bench_size])), (ht_bench_from, .inl (cI, 4, .inl vt_bench_from)), (ht_bench_to, .inl (cI, 4, .inl vt_bench_to)), (ht_bench_copies, .inl (cI, 4, .inl vt_bench_copies))] H := hP
    have hD : va_D A [(ht_acts, .inr (0, [.ref ht_acts_before, .int vt_acts_size])), (ht_acts_before, .inl (cJ, 16, .inr (.inl vt_acts_before))), (ht, .inr (4, [.ref ht_text, .ref ht_bench, .ref ht_acts, .ref ht_drawers, .ref ht_told, .ref ht_pagesOfTrial, .ref ht_kept, .int vt_spoken, .long vt_nowSeed])), (ht_bench, .inr (1, [.ref ht_bench_drops, .ref ht_bench_from, .ref ht_bench_to, .ref ht_bench_tires, .ref ht_bench_copies, .ref ht_bench_pages, .int vt_bench_size])), (ht_bench_from, .inl (cI, 4, .inl vt_bench_from)), (ht_bench_to, .inl (cI, 4, .inl vt_bench_to)), (ht_bench_copies, .inl (cI, 4, .inl vt_bench_copies))] := hD
    obtain ⟨x3, hx3, hf⟩ := dg_bind hf
    have hPc : va_P (dC, dI) vwCl [(ht_acts, .inr (0, [.ref ht_acts_before, .int vt_acts_size])), (ht_acts_before, .inl (cJ, 16, .inr (.inl vt_acts_before)))] H := hP.sub [0, 1] rfl
    have hDc : va_D A [(ht_acts, .inr (0, [.ref ht_acts_before, .int vt_acts_size])), (ht_acts_before, .inl (cJ, 16, .inr (.inl vt_acts_before)))] := hD.sub [0, 1] (by decide) rfl
    have hFc := va_free (wc := [(ht_acts, .inr (0, [.ref ht_acts_before, .int vt_acts_size])), (ht_acts_before, .inl (cJ, 16, .inr (.inl vt_acts_before)))]) hD hS hA [0, 1] rfl
    refine va_callv (va_runV (As := [.long x2]) (rest := []) ⟨hx, hb, hml, hown, hts⟩ (k_X0_remember l dC dI cI cJ cZ H.size ht_acts ht_acts_before x2 vt_acts_size vt_acts_before N x3 hx3) (cwV 1 hts gX5_strike_X0_remember rfl rfl rfl hd_X0_remember ⟨Nat.le_of_ble_eq_true rfl, Nat.le_of_ble_eq_true rfl⟩) ⟨blind_pc, va_recv hK hPc (ci := 0) (q0 := 0) rfl rfl, pre_pc hPc hK hDc⟩ rfl rfl hl.1 rfl (lv_room (Nat.le_of_ble_eq_true rfl)) dX5_strike_19 ⟨Nat.zero_le _, Nat.zero_le _⟩) hS (fun q _ h => hFc q h) hFc (fun u t H1 locs eth hvm hw hB hz1 hk1 hS => ?_)
    obtain ⟨hP1, hK1, hD1⟩ := hB
    rw [eth] at hP1
    subst hw
    obtain ⟨hP, hD⟩ := va_join (wr := [(ht, .inr (4, [.ref ht_text, .ref ht_bench, .ref ht_acts, .ref ht_drawers, .ref ht_told, .ref ht_pagesOfTrial, .ref ht_kept, .int vt_spoken, .long vt_nowSeed])), (ht_bench, .inr (1, [.ref ht_bench_drops, .ref ht_bench_from, .ref ht_bench_to, .ref ht_bench_tires, .ref ht_bench_copies, .ref ht_bench_pages, .int vt_bench_size])), (ht_bench_from, .inl (cI, 4, .inl vt_bench_from)), (ht_bench_to, .inl (cI, 4, .inl vt_bench_to)), (ht_bench_copies, .inl (cI, 4, .inl vt_bench_copies))]) (w1 := [(ht_acts, .inr (0, [.ref ht_acts_before, .int x3.1])), (ht_acts_before, .inl (cJ, 16, .inr (.inl x3.2)))]) hP hD [0, 1] [2, 3, 4, 5, 6] rfl rfl (by decide) (by decide) hk1 hFc hP1 hD1
    clear hP1 hK1 hD1 hPc hDc hFc hk1 hz1 hvm eth
    generalize H1 = H at hP hS ⊢
    have hP : va_P (dC, dI) vwCl [(ht, .inr (4, [.ref ht_text, .ref ht_bench, .ref ht_acts, .ref ht_drawers, .ref ht_told, .ref ht_pagesOfTrial, .ref ht_kept, .int vt_spoken, .long vt_nowSeed])), (ht_bench, .inr (1, [.ref ht_bench_drops, .ref ht_bench_from, .ref ht_bench_to, .ref ht_bench_tires, .ref ht_bench_copies, .ref ht_bench_pages, .int vt_bench_size])), (ht_bench_from, .inl (cI, 4, .inl vt_bench_from)), (ht_bench_to, .inl (cI, 4, .inl vt_bench_to)), (ht_bench_copies, .inl (cI, 4, .inl vt_bench_copies)), (ht_acts, .inr (0, [.ref ht_acts_before, .int x3.1])), (ht_acts_before, .inl (cJ, 16, .inr (.inl x3.2)))] H := hP
    have hD : va_D A [(ht, .inr (4, [.ref ht_text, .ref ht_bench, .ref ht_acts, .ref ht_drawers, .ref ht_told, .ref ht_pagesOfTrial, .ref ht_kept, .int vt_spoken, .long vt_nowSeed])), (ht_bench, .inr (1, [.ref ht_bench_drops, .ref ht_bench_from, .ref ht_bench_to, .ref ht_bench_tires, .ref ht_bench_copies, .ref ht_bench_pages, .int vt_bench_size])), (ht_bench_from, .inl (cI, 4, .inl vt_bench_from)), (ht_bench_to, .inl (cI, 4, .inl vt_bench_to)), (ht_bench_copies, .inl (cI, 4, .inl vt_bench_copies)), (ht_acts, .inr (0, [.ref ht_acts_before, .int x3.1])), (ht_acts_before, .inl (cJ, 16, .inr (.inl x3.2)))] := hD
    refine lv_aload_n hx hb dX5_strike_22 rfl (lv_at hl 0 rfl) ?_
    refine va_get (D := (dC, dI)) (ci := 4) (v := .int vt_spoken) (C := RX5) (T := TX5) (N := 9) hx hb hts hinX5 hown hK hP 0 rfl rfl 7 (by decide) hw0 (fun _ h9 => h9) rfl dX5_strike_23 ?_
    obtain ⟨x4, hx4, hf⟩ := dg_bind hf
    have hPc : va_P (dC, dI) vwCl [] H := hP.sub [] rfl
    have hDc : va_D A [] := hD.sub [] (by decide) rfl
    have hFc := va_free (wc := []) hD hS hA [] rfl
    refine va_calli (va_runS (As := [.int vt_spoken]) (rest := []) ⟨hx, hb, hml, hown, hts⟩ (k_X4_lastWord l dC dI cI cJ cZ H.size vt_spoken N x4 hx4) (va_cwS 1 hts gX5_strike_X4_lastWord rfl rfl rfl hd_X4_lastWord ⟨Nat.le_of_ble_eq_true rfl, Nat.le_of_ble_eq_true rfl⟩) ⟨blind_pc, pre_pc hPc hK hDc⟩ rfl rfl hl.1 rfl (lv_room (Nat.le_of_ble_eq_true rfl)) dX5_strike_26 ⟨Nat.zero_le _, Nat.zero_le _⟩) hS (fun q _ h => hFc q h) hFc (fun r u t H1 locs eth hvm hw hB hz1 hk1 hS => ?_)
    obtain ⟨hP1, hK1, hD1⟩ := hB
    rw [eth] at hP1
    subst hw
    obtain ⟨hP, hD⟩ := va_join (wr := [(ht, .inr (4, [.ref ht_text, .ref ht_bench, .ref ht_acts, .ref ht_drawers, .ref ht_told, .ref ht_pagesOfTrial, .ref ht_kept, .int vt_spoken, .long vt_nowSeed])), (ht_bench, .inr (1, [.ref ht_bench_drops, .ref ht_bench_from, .ref ht_bench_to, .ref ht_bench_tires, .ref ht_bench_copies, .ref ht_bench_pages, .int vt_bench_size])), (ht_bench_from, .inl (cI, 4, .inl vt_bench_from)), (ht_bench_to, .inl (cI, 4, .inl vt_bench_to)), (ht_bench_copies, .inl (cI, 4, .inl vt_bench_copies)), (ht_acts, .inr (0, [.ref ht_acts_before, .int x3.1])), (ht_acts_before, .inl (cJ, 16, .inr (.inl x3.2)))]) (w1 := []) hP hD [] [0, 1, 2, 3, 4, 5, 6] rfl rfl (by decide) (by decide) hk1 hFc hP1 hD1
    clear hP1 hK1 hD1 hPc hDc hFc hk1 hz1 hvm eth
    generalize H1 = H at hP hS ⊢
    have hP : va_P (dC, dI) vwCl [(ht, .inr (4, [.ref ht_text, .ref ht_bench, .ref ht_acts, .ref ht_drawers, .ref ht_told, .ref ht_pagesOfTrial, .ref ht_kept, .int vt_spoken, .long vt_nowSeed])), (ht_bench, .inr (1, [.ref ht_bench_drops, .ref ht_bench_from, .ref ht_bench_to, .ref ht_bench_tires, .ref ht_bench_copies, .ref ht_bench_pages, .int vt_bench_size])), (ht_bench_from, .inl (cI, 4, .inl vt_bench_from)), (ht_bench_to, .inl (cI, 4, .inl vt_bench_to)), (ht_bench_copies, .inl (cI, 4, .inl vt_bench_copies)), (ht_acts, .inr (0, [.ref ht_acts_before, .int x3.1])), (ht_acts_before, .inl (cJ, 16, .inr (.inl x3.2)))] H := hP
    have hD : va_D A [(ht, .inr (4, [.ref ht_text, .ref ht_bench, .ref ht_acts, .ref ht_drawers, .ref ht_told, .ref ht_pagesOfTrial, .ref ht_kept, .int vt_spoken, .long vt_nowSeed])), (ht_bench, .inr (1, [.ref ht_bench_drops, .ref ht_bench_from, .ref ht_bench_to, .ref ht_bench_tires, .ref ht_bench_copies, .ref ht_bench_pages, .int vt_bench_size])), (ht_bench_from, .inl (cI, 4, .inl vt_bench_from)), (ht_bench_to, .inl (cI, 4, .inl vt_bench_to)), (ht_bench_copies, .inl (cI, 4, .inl vt_bench_copies)), (ht_acts, .inr (0, [.ref ht_acts_before, .int x3.1])), (ht_acts_before, .inl (cJ, 16, .inr (.inl x3.2)))] := hD
    refine lv_istore_n (lv' := [(1, .int x4), (0, .ref ht)]) hx hb dX5_strike_29 rfl hl (by decide) rfl (fun ls hl => ?_)
    refine lv_aload_n hx hb dX5_strike_30 rfl (lv_at hl 1 rfl) ?_
    refine lv_aload_n hx hb dX5_strike_31 rfl (lv_at hl 1 rfl) ?_
    refine va_get (D := (dC, dI)) (ci := 4) (v := .int vt_spoken) (C := RX5) (T := TX5) (N := 9) hx hb hts hinX5 hown hK hP 0 rfl rfl 7 (by decide) hw0 (fun _ h9 => h9) rfl dX5_strike_32 ?_
    obtain ⟨x5, hx5, hf⟩ := dg_bind hf
    have hPc : va_P (dC, dI) vwCl [] H := hP.sub [] rfl
    have hDc : va_D A [] := hD.sub [] (by decide) rfl
    have hFc := va_free (wc := []) hD hS hA [] rfl
    refine va_calli (va_runS (As := [.int vt_spoken]) (rest := [.ref ht]) ⟨hx, hb, hml, hown, hts⟩ (k_X4_withoutLast l dC dI cI cJ cZ H.size vt_spoken N x5 hx5) (va_cwS 1 hts gX5_strike_X4_withoutLast rfl rfl rfl hd_X4_withoutLast ⟨Nat.le_of_ble_eq_true rfl, Nat.le_of_ble_eq_true rfl⟩) ⟨blind_pc, pre_pc hPc hK hDc⟩ rfl rfl hl.1 rfl (lv_room (Nat.le_of_ble_eq_true rfl)) dX5_strike_35 ⟨Nat.zero_le _, Nat.zero_le _⟩) hS (fun q _ h => hFc q h) hFc (fun r u t H1 locs eth hvm hw hB hz1 hk1 hS => ?_)
    obtain ⟨hP1, hK1, hD1⟩ := hB
    rw [eth] at hP1
    subst hw
    obtain ⟨hP, hD⟩ := va_join (wr := [(ht, .inr (4, [.ref ht_text, .ref ht_bench, .ref ht_acts, .ref ht_drawers, .ref ht_told, .ref ht_pagesOfTrial, .ref ht_kept, .int vt_spoken, .long vt_nowSeed])), (ht_bench, .inr (1, [.ref ht_bench_drops, .ref ht_bench_from, .ref ht_bench_to, .ref ht_bench_tires, .ref ht_bench_copies, .ref ht_bench_pages, .int vt_bench_size])), (ht_bench_from, .inl (cI, 4, .inl vt_bench_from)), (ht_bench_to, .inl (cI, 4, .inl vt_bench_to)), (ht_bench_copies, .inl (cI, 4, .inl vt_bench_copies)), (ht_acts, .inr (0, [.ref ht_acts_before, .int x3.1])), (ht_acts_before, .inl (cJ, 16, .inr (.inl x3.2)))]) (w1 := []) hP hD [] [0, 1, 2, 3, 4, 5, 6] rfl rfl (by decide) (by decide) hk1 hFc hP1 hD1
    clear hP1 hK1 hD1 hPc hDc hFc hk1 hz1 hvm eth
    generalize H1 = H at hP hS ⊢
    have hP : va_P (dC, dI) vwCl [(ht, .inr (4, [.ref ht_text, .ref ht_bench, .ref ht_acts, .ref ht_drawers, .ref ht_told, .ref ht_pagesOfTrial, .ref ht_kept, .int vt_spoken, .long vt_nowSeed])), (ht_bench, .inr (1, [.ref ht_bench_drops, .ref ht_bench_from, .ref ht_bench_to, .ref ht_bench_tires, .ref ht_bench_copies, .ref ht_bench_pages, .int vt_bench_size])), (ht_bench_from, .inl (cI, 4, .inl vt_bench_from)), (ht_bench_to, .inl (cI, 4, .inl vt_bench_to)), (ht_bench_copies, .inl (cI, 4, .inl vt_bench_copies)), (ht_acts, .inr (0, [.ref ht_acts_before, .int x3.1])), (ht_acts_before, .inl (cJ, 16, .inr (.inl x3.2)))] H := hP
    have hD : va_D A [(ht, .inr (4, [.ref ht_text, .ref ht_bench, .ref ht_acts, .ref ht_drawers, .ref ht_told, .ref ht_pagesOfTrial, .ref ht_kept, .int vt_spoken, .long vt_nowSeed])), (ht_bench, .inr (1, [.ref ht_bench_drops, .ref ht_bench_from, .ref ht_bench_to, .ref ht_bench_tires, .ref ht_bench_copies, .ref ht_bench_pages, .int vt_bench_size])), (ht_bench_from, .inl (cI, 4, .inl vt_bench_from)), (ht_bench_to, .inl (cI, 4, .inl vt_bench_to)), (ht_bench_copies, .inl (cI, 4, .inl vt_bench_copies)), (ht_acts, .inr (0, [.ref ht_acts_before, .int x3.1])), (ht_acts_before, .inl (cJ, 16, .inr (.inl x3.2)))] := hD
    refine va_put (D := (dC, dI)) (ci := 4) (v := .int x5) (ty := .int) (C := RX5) (T := TX5) (N := 9) hx hb hts hinX5 tyX5 tyX5_ok nmX5 hown hK hP hD hS 0 rfl rfl 7 (by decide) hw0 (fun _ h9 => h9) rfl (by decide +kernel) rfl rfl (Nat.le_of_ble_eq_true rfl) dX5_strike_38 (fun H locs hP hD hS => ?_)
    have hP : va_P (dC, dI) vwCl [(ht, .inr (4, [.ref ht_text, .ref ht_bench, .ref ht_acts, .ref ht_drawers, .ref ht_told, .ref ht_pagesOfTrial, .ref ht_kept, .int x5, .long vt_nowSeed])), (ht_bench, .inr (1, [.ref ht_bench_drops, .ref ht_bench_from, .ref ht_bench_to, .ref ht_bench_tires, .ref ht_bench_copies, .ref ht_bench_pages, .int vt_bench_size])), (ht_bench_from, .inl (cI, 4, .inl vt_bench_from)), (ht_bench_to, .inl (cI, 4, .inl vt_bench_to)), (ht_bench_copies, .inl (cI, 4, .inl vt_bench_copies)), (ht_acts, .inr (0, [.ref ht_acts_before, .int x3.1])), (ht_acts_before, .inl (cJ, 16, .inr (.inl x3.2)))] H := hP
    have hD : va_D A [(ht, .inr (4, [.ref ht_text, .ref ht_bench, .ref ht_acts, .ref ht_drawers, .ref ht_told, .ref ht_pagesOfTrial, .ref ht_kept, .int x5, .long vt_nowSeed])), (ht_bench, .inr (1, [.ref ht_bench_drops, .ref ht_bench_from, .ref ht_bench_to, .ref ht_bench_tires, .ref ht_bench_copies, .ref ht_bench_pages, .int vt_bench_size])), (ht_bench_from, .inl (cI, 4, .inl vt_bench_from)), (ht_bench_to, .inl (cI, 4, .inl vt_bench_to)), (ht_bench_copies, .inl (cI, 4, .inl vt_bench_copies)), (ht_acts, .inr (0, [.ref ht_acts_before, .int x3.1])), (ht_acts_before, .inl (cJ, 16, .inr (.inl x3.2)))] := hD
    refine lv_iload_n hx hb dX5_strike_41 rfl (lv_at hl 0 rfl) ?_
    have he := Option.some.inj hf
    have hP9 := hP
    have hD9 := hD
    exact W.iret (v := x4) hx hb hr (fun t eth hW => ⟨⟨x4, (x5, x3.1, x3.2), rfl, ⟨(congrArg Prod.fst he).symm, (congrArg Prod.snd he).symm⟩, by rw [eth]; exact hP9, va_K.moved hW.alike hK, hD9⟩, hS.F eth⟩) hS.2.2 dX5_strike_42
  · replace hf := dg_t c1 hf
    refine lv_bipush (v := -3) hx hb dX5_strike_8 (by decide) ?_
    have he := Option.some.inj hf
    have hP9 := hP
    have hD9 := hD
    exact W.iret (v := (-3:Int32)) hx hb hr (fun t eth hW => ⟨⟨(-3:Int32), (vt_spoken, vt_acts_size, vt_acts_before), rfl, ⟨(congrArg Prod.fst he).symm, (congrArg Prod.snd he).symm⟩, by rw [eth]; exact hP9, va_K.moved hW.alike hK, hD9⟩, hS.F eth⟩) hS.2.2 dX5_strike_10
theorem hd_X5_reform : yX5_reform.cls = RX5 ∧ yX5_reform.cls ≠ "java/lang/invoke/MethodHandle" ∧ yX5_reform.cls ≠ "java/lang/invoke/VarHandle" ∧ (parseMethodDescriptor yX5_reform.desc).map (fun d => d.parameters.length) = some 1 := by decide +kernel
abbrev rm_X5_reform : Room := { frames := 2, cells := 0, slots := 0, locals := 102 }
abbrev q_X5_reform (dC : Nat → ClassId) (dI : Nat → Nat → Nat) (cI cJ cZ : ClassId) (ht ht_text ht_bench ht_acts ht_drawers ht_told ht_pagesOfTrial ht_kept ht_bench_drops ht_bench_from ht_bench_to ht_bench_tires ht_bench_copies ht_bench_pages ht_acts_before : Nat) (vt_spoken : Int32) (vt_nowSeed : Int64) (vt_bench_size : Int32) (vt_bench_copies : Nat → Int32) (R : Int32 × (Nat → Int32) × (Nat → Int32) × Int32 × (Nat → Int64)) (A : Nat → Prop) : Array Value → State → Outcome → State → Prop := va_Qi (fun (r : Int32) (u : (Nat → Int32) × (Nat → Int32) × Int32 × (Nat → Int64)) => R.1 = r ∧ R.2 = u) (fun (u : (Nat → Int32) × (Nat → Int32) × Int32 × (Nat → Int64)) (t : State) => va_P (dC, dI) vwCl [(ht, .inr (4, [.ref ht_text, .ref ht_bench, .ref ht_acts, .ref ht_drawers, .ref ht_told, .ref ht_pagesOfTrial, .ref ht_kept, .int vt_spoken, .long vt_nowSeed])), (ht_bench, .inr (1, [.ref ht_bench_drops, .ref ht_bench_from, .ref ht_bench_to, .ref ht_bench_tires, .ref ht_bench_copies, .ref ht_bench_pages, .int vt_bench_size])), (ht_bench_from, .inl (cI, 4, .inl u.1)), (ht_bench_to, .inl (cI, 4, .inl u.2.1)), (ht_bench_copies, .inl (cI, 4, .inl vt_bench_copies)), (ht_acts, .inr (0, [.ref ht_acts_before, .int u.2.2.1])), (ht_acts_before, .inl (cJ, 16, .inr (.inl u.2.2.2)))] t.heap ∧ va_K (dC, dI) vwCl [(cI, .int), (cJ, .long), (cZ, .boolean)] t ∧ va_D A [(ht, .inr (4, [.ref ht_text, .ref ht_bench, .ref ht_acts, .ref ht_drawers, .ref ht_told, .ref ht_pagesOfTrial, .ref ht_kept, .int vt_spoken, .long vt_nowSeed])), (ht_bench, .inr (1, [.ref ht_bench_drops, .ref ht_bench_from, .ref ht_bench_to, .ref ht_bench_tires, .ref ht_bench_copies, .ref ht_bench_pages, .int vt_bench_size])), (ht_bench_from, .inl (cI, 4, .inl u.1)), (ht_bench_to, .inl (cI, 4, .inl u.2.1)), (ht_bench_copies, .inl (cI, 4, .inl vt_bench_copies)), (ht_acts, .inr (0, [.ref ht_acts_before, .int u.2.2.1])), (ht_acts_before, .inl (cJ, 16, .inr (.inl u.2.2.2)))]) A
set_option maxHeartbeats 4000000 in
set_option maxRecDepth 100000 in
theorem k_X5_reform (l : Launch) (dC : Nat → ClassId) (dI : Nat → Nat → Nat) (cI cJ cZ : ClassId) (sz : Nat) (ht ht_text ht_bench ht_acts ht_drawers ht_told ht_pagesOfTrial ht_kept ht_bench_drops ht_bench_from ht_bench_to ht_bench_tires ht_bench_copies ht_bench_pages ht_acts_before : Nat) (a1 : Int32) (vt_spoken : Int32) (vt_nowSeed : Int64) (vt_bench_size : Int32) (vt_bench_from : Nat → Int32) (vt_bench_to : Nat → Int32) (vt_bench_copies : Nat → Int32) (vt_acts_size : Int32) (vt_acts_before : Nat → Int64) (N : Nat) (R : Int32 × (Nat → Int32) × (Nat → Int32) × Int32 × (Nat → Int64)) (hf : f_X5_reform N a1 vt_spoken vt_bench_size vt_bench_from vt_bench_to vt_bench_copies vt_acts_size vt_acts_before = some R) : Met l yX5_reform wsX5_reform (rm_X5_reform) (va_Pc [.ref ht, .int a1] (fun U => U.heap.size = sz ∧ va_P (dC, dI) vwCl [(ht, .inr (4, [.ref ht_text, .ref ht_bench, .ref ht_acts, .ref ht_drawers, .ref ht_told, .ref ht_pagesOfTrial, .ref ht_kept, .int vt_spoken, .long vt_nowSeed])), (ht_bench, .inr (1, [.ref ht_bench_drops, .ref ht_bench_from, .ref ht_bench_to, .ref ht_bench_tires, .ref ht_bench_copies, .ref ht_bench_pages, .int vt_bench_size])), (ht_bench_from, .inl (cI, 4, .inl vt_bench_from)), (ht_bench_to, .inl (cI, 4, .inl vt_bench_to)), (ht_bench_copies, .inl (cI, 4, .inl vt_bench_copies)), (ht_acts, .inr (0, [.ref ht_acts_before, .int vt_acts_size])), (ht_acts_before, .inl (cJ, 16, .inr (.inl vt_acts_before)))] U.heap ∧ va_K (dC, dI) vwCl [(cI, .int), (cJ, .long), (cZ, .boolean)] U ∧ va_D (fun _ => True) [(ht, .inr (4, [.ref ht_text, .ref ht_bench, .ref ht_acts, .ref ht_drawers, .ref ht_told, .ref ht_pagesOfTrial, .ref ht_kept, .int vt_spoken, .long vt_nowSeed])), (ht_bench, .inr (1, [.ref ht_bench_drops, .ref ht_bench_from, .ref ht_bench_to, .ref ht_bench_tires, .ref ht_bench_copies, .ref ht_bench_pages, .int vt_bench_size])), (ht_bench_from, .inl (cI, 4, .inl vt_bench_from)), (ht_bench_to, .inl (cI, 4, .inl vt_bench_to)), (ht_bench_copies, .inl (cI, 4, .inl vt_bench_copies)), (ht_acts, .inr (0, [.ref ht_acts_before, .int vt_acts_size])), (ht_acts_before, .inl (cJ, 16, .inr (.inl vt_acts_before)))])) (q_X5_reform dC dI cI cJ cZ ht ht_text ht_bench ht_acts ht_drawers ht_told ht_pagesOfTrial ht_kept ht_bench_drops ht_bench_from ht_bench_to ht_bench_tires ht_bench_copies ht_bench_pages ht_acts_before vt_spoken vt_nowSeed vt_bench_size vt_bench_copies R (va_A [(ht, .inr (4, [.ref ht_text, .ref ht_bench, .ref ht_acts, .ref ht_drawers, .ref ht_told, .ref ht_pagesOfTrial, .ref ht_kept, .int vt_spoken, .long vt_nowSeed])), (ht_bench, .inr (1, [.ref ht_bench_drops, .ref ht_bench_from, .ref ht_bench_to, .ref ht_bench_tires, .ref ht_bench_copies, .ref ht_bench_pages, .int vt_bench_size])), (ht_bench_from, .inl (cI, 4, .inl vt_bench_from)), (ht_bench_to, .inl (cI, 4, .inl vt_bench_to)), (ht_bench_copies, .inl (cI, 4, .inl vt_bench_copies)), (ht_acts, .inr (0, [.ref ht_acts_before, .int vt_acts_size])), (ht_acts_before, .inl (cJ, 16, .inr (.inl vt_acts_before)))] sz)) 0 0 (va_A [(ht, .inr (4, [.ref ht_text, .ref ht_bench, .ref ht_acts, .ref ht_drawers, .ref ht_told, .ref ht_pagesOfTrial, .ref ht_kept, .int vt_spoken, .long vt_nowSeed])), (ht_bench, .inr (1, [.ref ht_bench_drops, .ref ht_bench_from, .ref ht_bench_to, .ref ht_bench_tires, .ref ht_bench_copies, .ref ht_bench_pages, .int vt_bench_size])), (ht_bench_from, .inl (cI, 4, .inl vt_bench_from)), (ht_bench_to, .inl (cI, 4, .inl vt_bench_to)), (ht_bench_copies, .inl (cI, 4, .inl vt_bench_copies)), (ht_acts, .inr (0, [.ref ht_acts_before, .int vt_acts_size])), (ht_acts_before, .inl (cJ, 16, .inr (.inl vt_acts_before)))] sz) := by
  refine Met.ofW (cc := cX5_reform) (maxL := 3) (ret := (some .int)) (by decide) rfl ?_
  intro p e s m args below meth c s₁ B hml hv
  obtain ⟨rfl, hsz, hP, hK, hD0⟩ := hv
  have hx := B.exec
  have hb := B.bytes
  have hr := B.returns
  have hts := atoms_spec (ws := wsX5_reform) B.pre
  have hown : s.vm.findClass RX5 = some m.cls := findClass_of_methodNamed B.named
  have hlocks := B.notSynchronized
  clear B
  subst hsz
  have hw0 := hts (.fieldLink RX5 19 "ShorthandCourt" "bench" "LShorthandCourt$Bench;") (by decide +kernel)
  have hw1 := hts (.fieldLink RX5 95 "ShorthandCourt$Bench" "from" "[I") (by decide +kernel)
  have hw2 := hts (.fieldLink RX5 26 "ShorthandCourt" "acts" "LShorthandCourt$ActRow;") (by decide +kernel)
  have hw3 := hts (.fieldLink RX5 98 "ShorthandCourt$Bench" "to" "[I") (by decide +kernel)
  have hinX1 : ∀ w ∈ u_ws RX1 TX1 7, w ∈ wsX5_reform := by decide +kernel
  have hinX5 : ∀ w ∈ u_ws RX5 TX5 9, w ∈ wsX5_reform := by decide +kernel
  have hD := hD0.self (sz := s.heap.size)
  clear hD0
  generalize hAe : va_A [(ht, .inr (4, [.ref ht_text, .ref ht_bench, .ref ht_acts, .ref ht_drawers, .ref ht_told, .ref ht_pagesOfTrial, .ref ht_kept, .int vt_spoken, .long vt_nowSeed])), (ht_bench, .inr (1, [.ref ht_bench_drops, .ref ht_bench_from, .ref ht_bench_to, .ref ht_bench_tires, .ref ht_bench_copies, .ref ht_bench_pages, .int vt_bench_size])), (ht_bench_from, .inl (cI, 4, .inl vt_bench_from)), (ht_bench_to, .inl (cI, 4, .inl vt_bench_to)), (ht_bench_copies, .inl (cI, 4, .inl vt_bench_copies)), (ht_acts, .inr (0, [.ref ht_acts_before, .int vt_acts_size])), (ht_acts_before, .inl (cJ, 16, .inr (.inl vt_acts_before)))] s.heap.size = A at hD ⊢
  have hA : ∀ q : Nat, s.heap.size ≤ q → A q := fun q h => by rw [← hAe]; exact Or.inr h
  clear hAe
  have hS : va_S A s.heap s.heap [] := va_S.rf
  have hl := lv_entry ([.ref ht, .int a1]) (n := 3) (Nat.le_of_ble_eq_true rfl)
  rw [lg_entry_eq]
  generalize (lg_sl ([.ref ht, .int a1]) ++ List.replicate (3 - (lg_sl ([.ref ht, .int a1])).length) Slot.unset).toArray = ls at hl ⊢
  have hl : lv_has ls 3 [(0, .ref ht), (1, .int a1)] := hl
  unfold f_X5_reform at hf
  refine lv_aload_n hx hb dX5_reform_0 rfl (lv_at hl 0 rfl) ?_
  refine va_get (D := (dC, dI)) (ci := 4) (v := .ref ht_bench) (C := RX5) (T := TX5) (N := 9) hx hb hts hinX5 hown hK hP 0 rfl rfl 1 (by decide) hw0 (fun _ h9 => h9) rfl dX5_reform_1 ?_
  refine lv_iload_n hx hb dX5_reform_4 rfl (lv_at hl 1 rfl) ?_
  obtain ⟨x1, hx1, hf⟩ := dg_bind hf
  have hPc : va_P (dC, dI) vwCl [(ht_bench, .inr (1, [.ref ht_bench_drops, .ref ht_bench_from, .ref ht_bench_to, .ref ht_bench_tires, .ref ht_bench_copies, .ref ht_bench_pages, .int vt_bench_size]))] s.heap := hP.sub [1] rfl
  have hDc : va_D A [(ht_bench, .inr (1, [.ref ht_bench_drops, .ref ht_bench_from, .ref ht_bench_to, .ref ht_bench_tires, .ref ht_bench_copies, .ref ht_bench_pages, .int vt_bench_size]))] := hD.sub [1] (by decide) rfl
  have hFc := va_free (wc := [(ht_bench, .inr (1, [.ref ht_bench_drops, .ref ht_bench_from, .ref ht_bench_to, .ref ht_bench_tires, .ref ht_bench_copies, .ref ht_bench_pages, .int vt_bench_size]))]) hD hS hA [1] rfl
  refine va_calli (va_runV (As := [.int a1]) (rest := []) ⟨hx, hb, hml, hown, hts⟩ (k_X1_has l dC dI cI cJ cZ s.heap.size ht_bench ht_bench_drops ht_bench_from ht_bench_to ht_bench_tires ht_bench_copies ht_bench_pages a1 vt_bench_size N x1 hx1) (cwV 1 hts gX5_reform_X1_has rfl rfl rfl hd_X1_has ⟨Nat.le_of_ble_eq_true rfl, Nat.le_of_ble_eq_true rfl⟩) ⟨blind_pc, va_recv hK hPc (ci := 1) (q0 := 0) rfl rfl, pre_pc hPc hK hDc⟩ rfl rfl hl.1 rfl (lv_room (Nat.le_of_ble_eq_true rfl)) dX5_reform_5 ⟨Nat.zero_le _, Nat.zero_le _⟩) hS (fun q _ h => hFc q h) hFc (fun r u t H1 locs eth hvm hw hB hz1 hk1 hS => ?_)
  obtain ⟨hP1, hK1, hD1⟩ := hB
  rw [eth] at hP1
  subst hw
  obtain ⟨hP, hD⟩ := va_join (wr := [(ht, .inr (4, [.ref ht_text, .ref ht_bench, .ref ht_acts, .ref ht_drawers, .ref ht_told, .ref ht_pagesOfTrial, .ref ht_kept, .int vt_spoken, .long vt_nowSeed])), (ht_bench_from, .inl (cI, 4, .inl vt_bench_from)), (ht_bench_to, .inl (cI, 4, .inl vt_bench_to)), (ht_bench_copies, .inl (cI, 4, .inl vt_bench_copies)), (ht_acts, .inr (0, [.ref ht_acts_before, .int vt_acts_size])), (ht_acts_before, .inl (cJ, 16, .inr (.inl vt_acts_before)))]) (w1 := [(ht_bench, .inr (1, [.ref ht_bench_drops, .ref ht_bench_from, .ref ht_bench_to, .ref ht_bench_tires, .ref ht_bench_copies, .ref ht_bench_pages, .int vt_bench_size]))]) hP hD [1] [0, 2, 3, 4, 5, 6] rfl rfl (by decide) (by decide) hk1 hFc hP1 hD1
  clear hP1 hK1 hD1 hPc hDc hFc hk1 hz1 hvm eth
  generalize H1 = H at hP hS ⊢
  have hP : va_P (dC, dI) vwCl [(ht, .inr (4, [.ref ht_text, .ref ht_bench, .ref ht_acts, .ref ht_drawers, .ref ht_told, .ref ht_pagesOfTrial, .ref ht_kept, .int vt_spoken, .long vt_nowSeed])), (ht_bench_from, .inl (cI, 4, .inl vt_bench_from)), (ht_bench_to, .inl (cI, 4, .inl vt_bench_to)), (ht_bench_copies, .inl (cI, 4, .inl vt_bench_copies)), (ht_acts, .inr (0, [.ref ht_acts_before, .int vt_acts_size])), (ht_acts_before, .inl (cJ, 16, .inr (.inl vt_acts_before))), (ht_bench, .inr (1, [.ref ht_bench_drops, .ref ht_bench_from, .ref ht_bench_to, .ref ht_bench_tires, .ref ht_bench_copies, .ref ht_bench_pages, .int vt_bench_size]))] H := hP
  have hD : va_D A [(ht, .inr (4, [.ref ht_text, .ref ht_bench, .ref ht_acts, .ref ht_drawers, .ref ht_told, .ref ht_pagesOfTrial, .ref ht_kept, .int vt_spoken, .long vt_nowSeed])), (ht_bench_from, .inl (cI, 4, .inl vt_bench_from)), (ht_bench_to, .inl (cI, 4, .inl vt_bench_to)), (ht_bench_copies, .inl (cI, 4, .inl vt_bench_copies)), (ht_acts, .inr (0, [.ref ht_acts_before, .int vt_acts_size])), (ht_acts_before, .inl (cJ, 16, .inr (.inl vt_acts_before))), (ht_bench, .inr (1, [.ref ht_bench_drops, .ref ht_bench_from, .ref ht_bench_to, .ref ht_bench_tires, .ref ht_bench_copies, .ref ht_bench_pages, .int vt_bench_size]))] := hD
  refine lv_if_ne (tgt := 13) hx hb dX5_reform_8 (by decide) (fun c2 => ?_) (fun c2 => ?_)
  · replace hf := dg_f c2 hf
    refine lv_aload_n hx hb dX5_reform_13 rfl (lv_at hl 0 rfl) ?_
    refine va_get (D := (dC, dI)) (ci := 4) (v := .ref ht_bench) (C := RX5) (T := TX5) (N := 9) hx hb hts hinX5 hown hK hP 0 rfl rfl 1 (by decide) hw0 (fun _ h9 => h9) rfl dX5_reform_14 ?_
    refine va_get (D := (dC, dI)) (ci := 1) (v := .ref ht_bench_from) (C := RX1) (T := TX1) (N := 7) hx hb hts hinX1 hown hK hP 6 rfl rfl 1 (by decide) hw1 (fun _ h9 => h9) rfl dX5_reform_17 ?_
    refine lv_iload_n hx hb dX5_reform_20 rfl (lv_at hl 1 rfl) ?_
    obtain ⟨hi3, hf⟩ := dg_ix hf
    refine va_iald hx hb hK hP 1 0 rfl rfl hi3 dX5_reform_21 ?_
    refine lv_istore_n (lv' := [(2, .int (vt_bench_from a1.toNatClampNeg)), (0, .ref ht), (1, .int a1)]) hx hb dX5_reform_22 rfl hl (by decide) rfl (fun ls hl => ?_)
    refine lv_iload_n hx hb dX5_reform_23 rfl (lv_at hl 0 rfl) ?_
    refine lv_if_ne (tgt := 30) hx hb dX5_reform_24 (by decide) (fun c4 => ?_) (fun c4 => ?_)
    · replace hf := dg_f c4 hf
      refine lv_aload_n hx hb dX5_reform_30 rfl (lv_at hl 1 rfl) ?_
      refine va_get (D := (dC, dI)) (ci := 4) (v := .ref ht_acts) (C := RX5) (T := TX5) (N := 9) hx hb hts hinX5 hown hK hP 0 rfl rfl 2 (by decide) hw2 (fun _ h9 => h9) rfl dX5_reform_31 ?_
      refine lv_aload_n hx hb dX5_reform_34 rfl (lv_at hl 1 rfl) ?_
      obtain ⟨x5, hx5, hf⟩ := dg_bind hf
      have hPc : va_P (dC, dI) vwCl [(ht, .inr (4, [.ref ht_text, .ref ht_bench, .ref ht_acts, .ref ht_drawers, .ref ht_told, .ref ht_pagesOfTrial, .ref ht_kept, .int vt_spoken, .long vt_nowSeed])), (ht_bench, .inr (1, [.ref ht_bench_drops, .ref ht_bench_from, .ref ht_bench_to, .ref ht_bench_tires, .ref ht_bench_copies, .ref ht_bench_pages, .int vt_bench_size])), (ht_bench_from, .inl (cI, 4, .inl vt_bench_from)), (ht_bench_to, .inl (cI, 4, .inl vt_bench_to)), (ht_bench_copies, .inl (cI, 4, .inl vt_bench_copies))] H := hP.sub [0, 6, 1, 2, 3] rfl
      have hDc : va_D A [(ht, .inr (4, [.ref ht_text, .ref ht_bench, .ref ht_acts, .ref ht_drawers, .ref ht_told, .ref ht_pagesOfTrial, .ref ht_kept, .int vt_spoken, .long vt_nowSeed])), (ht_bench, .inr (1, [.ref ht_bench_drops, .ref ht_bench_from, .ref ht_bench_to, .ref ht_bench_tires, .ref ht_bench_copies, .ref ht_bench_pages, .int vt_bench_size])), (ht_bench_from, .inl (cI, 4, .inl vt_bench_from)), (ht_bench_to, .inl (cI, 4, .inl vt_bench_to)), (ht_bench_copies, .inl (cI, 4, .inl vt_bench_copies))] := hD.sub [0, 6, 1, 2, 3] (by decide) rfl
      have hFc := va_free (wc := [(ht, .inr (4, [.ref ht_text, .ref ht_bench, .ref ht_acts, .ref ht_drawers, .ref ht_told, .ref ht_pagesOfTrial, .ref ht_kept, .int vt_spoken, .long vt_nowSeed])), (ht_bench, .inr (1, [.ref ht_bench_drops, .ref ht_bench_from, .ref ht_bench_to, .ref ht_bench_tires, .ref ht_bench_copies, .ref ht_bench_pages, .int vt_bench_size])), (ht_bench_from, .inl (cI, 4, .inl vt_bench_from)), (ht_bench_to, .inl (cI, 4, .inl vt_bench_to)), (ht_bench_copies, .inl (cI, 4, .inl vt_bench_copies))]) hD hS hA [0, 6, 1, 2, 3] rfl
      refine va_calll (va_runV (As := []) (rest := [.ref ht_acts]) ⟨hx, hb, hml, hown, hts⟩ (k_X5_stateNow l dC dI cI cJ cZ H.size ht ht_text ht_bench ht_acts ht_drawers ht_told ht_pagesOfTrial ht_kept ht_bench_drops ht_bench_from ht_bench_to ht_bench_tires ht_bench_copies ht_bench_pages vt_spoken vt_nowSeed vt_bench_size vt_bench_from vt_bench_to vt_bench_copies N x5 hx5) (cwV 0 hts gX5_reform_X5_stateNow rfl rfl rfl hd_X5_stateNow ⟨Nat.le_of_ble_eq_true rfl, Nat.le_of_ble_eq_true rfl⟩) ⟨blind_pc, va_recv hK hPc (ci := 4) (q0 := 0) rfl rfl, pre_pc hPc hK hDc⟩ rfl rfl hl.1 rfl (lv_room (Nat.le_of_ble_eq_true rfl)) dX5_reform_35 ⟨Nat.zero_le _, Nat.zero_le _⟩) hS (fun q _ h => hFc q h) hFc (fun r u t H1 locs eth hvm hw hB hz1 hk1 hS => ?_)
      obtain ⟨hP1, hK1, hD1⟩ := hB
      rw [eth] at hP1
      subst hw
      obtain ⟨hP, hD⟩ := va_join (wr := [(ht_acts, .inr (0, [.ref ht_acts_before, .int vt_acts_size])), (ht_acts_before, .inl (cJ, 16, .inr (.inl vt_acts_before)))]) (w1 := [(ht, .inr (4, [.ref ht_text, .ref ht_bench, .ref ht_acts, .ref ht_drawers, .ref ht_told, .ref ht_pagesOfTrial, .ref ht_kept, .int vt_spoken, .long vt_nowSeed])), (ht_bench, .inr (1, [.ref ht_bench_drops, .ref ht_bench_from, .ref ht_bench_to, .ref ht_bench_tires, .ref ht_bench_copies, .ref ht_bench_pages, .int vt_bench_size])), (ht_bench_from, .inl (cI, 4, .inl vt_bench_from)), (ht_bench_to, .inl (cI, 4, .inl vt_bench_to)), (ht_bench_copies, .inl (cI, 4, .inl vt_bench_copies))]) hP hD [0, 6, 1, 2, 3] [4, 5] rfl rfl (by decide) (by decide) hk1 hFc hP1 hD1
      clear hP1 hK1 hD1 hPc hDc hFc hk1 hz1 hvm eth
      generalize H1 = H at hP hS ⊢
      have hP : va_P (dC, dI) vwCl [(ht_acts, .inr (0, [.ref ht_acts_before, .int vt_acts_size])), (ht_acts_before, .inl (cJ, 16, .inr (.inl vt_acts_before))), (ht, .inr (4, [.ref ht_text, .ref ht_bench, .ref ht_acts, .ref ht_drawers, .ref ht_told, .ref ht_pagesOfTrial, .ref ht_kept, .int vt_spoken, .long vt_nowSeed])), (ht_bench, .inr (1, [.ref ht_bench_drops, .ref ht_bench_from, .ref ht_bench_to, .ref ht_bench_tires, .ref ht_bench_copies, .ref ht_bench_pages, .int vt_bench_size])), (ht_bench_from, .inl (cI, 4, .inl vt_bench_from)), (ht_bench_to, .inl (cI, 4, .inl vt_bench_to)), (ht_bench_copies, .inl (cI, 4, .inl vt_bench_copies))] H := hP
      have hD : va_D A [(ht_acts, .inr (0, [.ref ht_acts_before, .int vt_acts_size])), (ht_acts_before, .inl (cJ, 16, .inr (.inl vt_acts_before))), (ht, .inr (4, [.ref ht_text, .ref ht_bench, .ref ht_acts, .ref ht_drawers, .ref ht_told, .ref ht_pagesOfTrial, .ref ht_kept, .int vt_spoken, .long vt_nowSeed])), (ht_bench, .inr (1, [.ref ht_bench_drops, .ref ht_bench_from, .ref ht_bench_to, .ref ht_bench_tires, .ref ht_bench_copies, .ref ht_bench_pages, .int vt_bench_size])), (ht_bench_from, .inl (cI, 4, .inl vt_bench_from)), (ht_bench_to, .inl (cI, 4, .inl vt_bench_to)), (ht_bench_copies, .inl (cI, 4, .inl vt_bench_copies))] := hD
      obtain ⟨x6, hx6, hf⟩ := dg_bind hf
      have hPc : va_P (dC, dI) vwCl [(ht_acts, .inr (0, [.ref ht_acts_before, .int vt_acts_size])), (ht_acts_before, .inl (cJ, 16, .inr (.inl vt_acts_before)))] H := hP.sub [0, 1] rfl
      have hDc : va_D A [(ht_acts, .inr (0, [.ref ht_acts_before, .int vt_acts_size])), (ht_acts_before, .inl (cJ, 16, .inr (.inl vt_acts_before)))] := hD.sub [0, 1] (by decide) rfl
      have hFc := va_free (wc := [(ht_acts, .inr (0, [.ref ht_acts_before, .int vt_acts_size])), (ht_acts_before, .inl (cJ, 16, .inr (.inl vt_acts_before)))]) hD hS hA [0, 1] rfl
      refine va_callv (va_runV (As := [.long x5]) (rest := []) ⟨hx, hb, hml, hown, hts⟩ (k_X0_remember l dC dI cI cJ cZ H.size ht_acts ht_acts_before x5 vt_acts_size vt_acts_before N x6 hx6) (cwV 1 hts gX5_reform_X0_remember rfl rfl rfl hd_X0_remember ⟨Nat.le_of_ble_eq_true rfl, Nat.le_of_ble_eq_true rfl⟩) ⟨blind_pc, va_recv hK hPc (ci := 0) (q0 := 0) rfl rfl, pre_pc hPc hK hDc⟩ rfl rfl hl.1 rfl (lv_room (Nat.le_of_ble_eq_true rfl)) dX5_reform_38 ⟨Nat.zero_le _, Nat.zero_le _⟩) hS (fun q _ h => hFc q h) hFc (fun u t H1 locs eth hvm hw hB hz1 hk1 hS => ?_)
      obtain ⟨hP1, hK1, hD1⟩ := hB
      rw [eth] at hP1
      subst hw
      obtain ⟨hP, hD⟩ := va_join (wr := [(ht, .inr (4, [.ref ht_text, .ref ht_bench, .ref ht_acts, .ref ht_drawers, .ref ht_told, .ref ht_pagesOfTrial, .ref ht_kept, .int vt_spoken, .long vt_nowSeed])), (ht_bench, .inr (1, [.ref ht_bench_drops, .ref ht_bench_from, .ref ht_bench_to, .ref ht_bench_tires, .ref ht_bench_copies, .ref ht_bench_pages, .int vt_bench_size])), (ht_bench_from, .inl (cI, 4, .inl vt_bench_from)), (ht_bench_to, .inl (cI, 4, .inl vt_bench_to)), (ht_bench_copies, .inl (cI, 4, .inl vt_bench_copies))]) (w1 := [(ht_acts, .inr (0, [.ref ht_acts_before, .int x6.1])), (ht_acts_before, .inl (cJ, 16, .inr (.inl x6.2)))]) hP hD [0, 1] [2, 3, 4, 5, 6] rfl rfl (by decide) (by decide) hk1 hFc hP1 hD1
      clear hP1 hK1 hD1 hPc hDc hFc hk1 hz1 hvm eth
      generalize H1 = H at hP hS ⊢
      have hP : va_P (dC, dI) vwCl [(ht, .inr (4, [.ref ht_text, .ref ht_bench, .ref ht_acts, .ref ht_drawers, .ref ht_told, .ref ht_pagesOfTrial, .ref ht_kept, .int vt_spoken, .long vt_nowSeed])), (ht_bench, .inr (1, [.ref ht_bench_drops, .ref ht_bench_from, .ref ht_bench_to, .ref ht_bench_tires, .ref ht_bench_copies, .ref ht_bench_pages, .int vt_bench_size])), (ht_bench_from, .inl (cI, 4, .inl vt_bench_from)), (ht_bench_to, .inl (cI, 4, .inl vt_bench_to)), (ht_bench_copies, .inl (cI, 4, .inl vt_bench_copies)), (ht_acts, .inr (0, [.ref ht_acts_before, .int x6.1])), (ht_acts_before, .inl (cJ, 16, .inr (.inl x6.2)))] H := hP
      have hD : va_D A [(ht, .inr (4, [.ref ht_text, .ref ht_bench, .ref ht_acts, .ref ht_drawers, .ref ht_told, .ref ht_pagesOfTrial, .ref ht_kept, .int vt_spoken, .long vt_nowSeed])), (ht_bench, .inr (1, [.ref ht_bench_drops, .ref ht_bench_from, .ref ht_bench_to, .ref ht_bench_tires, .ref ht_bench_copies, .ref ht_bench_pages, .int vt_bench_size])), (ht_bench_from, .inl (cI, 4, .inl vt_bench_from)), (ht_bench_to, .inl (cI, 4, .inl vt_bench_to)), (ht_bench_copies, .inl (cI, 4, .inl vt_bench_copies)), (ht_acts, .inr (0, [.ref ht_acts_before, .int x6.1])), (ht_acts_before, .inl (cJ, 16, .inr (.inl x6.2)))] := hD
      refine lv_aload_n hx hb dX5_reform_41 rfl (lv_at hl 1 rfl) ?_
      refine va_get (D := (dC, dI)) (ci := 4) (v := .ref ht_bench) (C := RX5) (T := TX5) (N := 9) hx hb hts hinX5 hown hK hP 0 rfl rfl 1 (by decide) hw0 (fun _ h9 => h9) rfl dX5_reform_42 ?_
      refine va_get (D := (dC, dI)) (ci := 1) (v := .ref ht_bench_from) (C := RX1) (T := TX1) (N := 7) hx hb hts hinX1 hown hK hP 1 rfl rfl 1 (by decide) hw1 (fun _ h9 => h9) rfl dX5_reform_45 ?_
      refine lv_iload_n hx hb dX5_reform_48 rfl (lv_at hl 2 rfl) ?_
      refine lv_iconst (v := 0) hx hb dX5_reform_49 (by decide) ?_
      obtain ⟨hi7, hf⟩ := dg_ix hf
      refine va_iast hx hb hK hP hD hS 2 0 rfl rfl hi7 dX5_reform_50 (fun H locs hP hD hS => ?_)
      have hP : va_P (dC, dI) vwCl [(ht, .inr (4, [.ref ht_text, .ref ht_bench, .ref ht_acts, .ref ht_drawers, .ref ht_told, .ref ht_pagesOfTrial, .ref ht_kept, .int vt_spoken, .long vt_nowSeed])), (ht_bench, .inr (1, [.ref ht_bench_drops, .ref ht_bench_from, .ref ht_bench_to, .ref ht_bench_tires, .ref ht_bench_copies, .ref ht_bench_pages, .int vt_bench_size])), (ht_bench_from, .inl (cI, 4, .inl (upd vt_bench_from a1.toNatClampNeg (0:Int32)))), (ht_bench_to, .inl (cI, 4, .inl vt_bench_to)), (ht_bench_copies, .inl (cI, 4, .inl vt_bench_copies)), (ht_acts, .inr (0, [.ref ht_acts_before, .int x6.1])), (ht_acts_before, .inl (cJ, 16, .inr (.inl x6.2)))] H := hP
      have hD : va_D A [(ht, .inr (4, [.ref ht_text, .ref ht_bench, .ref ht_acts, .ref ht_drawers, .ref ht_told, .ref ht_pagesOfTrial, .ref ht_kept, .int vt_spoken, .long vt_nowSeed])), (ht_bench, .inr (1, [.ref ht_bench_drops, .ref ht_bench_from, .ref ht_bench_to, .ref ht_bench_tires, .ref ht_bench_copies, .ref ht_bench_pages, .int vt_bench_size])), (ht_bench_from, .inl (cI, 4, .inl (upd vt_bench_from a1.toNatClampNeg (0:Int32)))), (ht_bench_to, .inl (cI, 4, .inl vt_bench_to)), (ht_bench_copies, .inl (cI, 4, .inl vt_bench_copies)), (ht_acts, .inr (0, [.ref ht_acts_before, .int x6.1])), (ht_acts_before, .inl (cJ, 16, .inr (.inl x6.2)))] := hD
      refine lv_aload_n hx hb dX5_reform_51 rfl (lv_at hl 1 rfl) ?_
      refine va_get (D := (dC, dI)) (ci := 4) (v := .ref ht_bench) (C := RX5) (T := TX5) (N := 9) hx hb hts hinX5 hown hK hP 0 rfl rfl 1 (by decide) hw0 (fun _ h9 => h9) rfl dX5_reform_52 ?_
      refine va_get (D := (dC, dI)) (ci := 1) (v := .ref ht_bench_to) (C := RX1) (T := TX1) (N := 7) hx hb hts hinX1 hown hK hP 1 rfl rfl 2 (by decide) hw3 (fun _ h9 => h9) rfl dX5_reform_55 ?_
      refine lv_iload_n hx hb dX5_reform_58 rfl (lv_at hl 2 rfl) ?_
      refine lv_iconst (v := 0) hx hb dX5_reform_59 (by decide) ?_
      obtain ⟨hi8, hf⟩ := dg_ix hf
      refine va_iast hx hb hK hP hD hS 3 0 rfl rfl hi8 dX5_reform_60 (fun H locs hP hD hS => ?_)
      have hP : va_P (dC, dI) vwCl [(ht, .inr (4, [.ref ht_text, .ref ht_bench, .ref ht_acts, .ref ht_drawers, .ref ht_told, .ref ht_pagesOfTrial, .ref ht_kept, .int vt_spoken, .long vt_nowSeed])), (ht_bench, .inr (1, [.ref ht_bench_drops, .ref ht_bench_from, .ref ht_bench_to, .ref ht_bench_tires, .ref ht_bench_copies, .ref ht_bench_pages, .int vt_bench_size])), (ht_bench_from, .inl (cI, 4, .inl (upd vt_bench_from a1.toNatClampNeg (0:Int32)))), (ht_bench_to, .inl (cI, 4, .inl (upd vt_bench_to a1.toNatClampNeg (0:Int32)))), (ht_bench_copies, .inl (cI, 4, .inl vt_bench_copies)), (ht_acts, .inr (0, [.ref ht_acts_before, .int x6.1])), (ht_acts_before, .inl (cJ, 16, .inr (.inl x6.2)))] H := hP
      have hD : va_D A [(ht, .inr (4, [.ref ht_text, .ref ht_bench, .ref ht_acts, .ref ht_drawers, .ref ht_told, .ref ht_pagesOfTrial, .ref ht_kept, .int vt_spoken, .long vt_nowSeed])), (ht_bench, .inr (1, [.ref ht_bench_drops, .ref ht_bench_from, .ref ht_bench_to, .ref ht_bench_tires, .ref ht_bench_copies, .ref ht_bench_pages, .int vt_bench_size])), (ht_bench_from, .inl (cI, 4, .inl (upd vt_bench_from a1.toNatClampNeg (0:Int32)))), (ht_bench_to, .inl (cI, 4, .inl (upd vt_bench_to a1.toNatClampNeg (0:Int32)))), (ht_bench_copies, .inl (cI, 4, .inl vt_bench_copies)), (ht_acts, .inr (0, [.ref ht_acts_before, .int x6.1])), (ht_acts_before, .inl (cJ, 16, .inr (.inl x6.2)))] := hD
      refine lv_iload_n hx hb dX5_reform_61 rfl (lv_at hl 0 rfl) ?_
      obtain ⟨x9, hx9, hf⟩ := dg_bind hf
      have hPc : va_P (dC, dI) vwCl [] H := hP.sub [] rfl
      have hDc : va_D A [] := hD.sub [] (by decide) rfl
      have hFc := va_free (wc := []) hD hS hA [] rfl
      refine va_calli (va_runS (As := [.int (vt_bench_from a1.toNatClampNeg)]) (rest := []) ⟨hx, hb, hml, hown, hts⟩ (k_X5_lessOneOrNone l dC dI cI cJ cZ H.size (vt_bench_from a1.toNatClampNeg) N x9 hx9) (va_cwS 1 hts gX5_reform_X5_lessOneOrNone rfl rfl rfl hd_X5_lessOneOrNone ⟨Nat.le_of_ble_eq_true rfl, Nat.le_of_ble_eq_true rfl⟩) ⟨blind_pc, pre_pc hPc hK hDc⟩ rfl rfl hl.1 rfl (lv_room (Nat.le_of_ble_eq_true rfl)) dX5_reform_62 ⟨Nat.zero_le _, Nat.zero_le _⟩) hS (fun q _ h => hFc q h) hFc (fun r u t H1 locs eth hvm hw hB hz1 hk1 hS => ?_)
      obtain ⟨hP1, hK1, hD1⟩ := hB
      rw [eth] at hP1
      subst hw
      obtain ⟨hP, hD⟩ := va_join (wr := [(ht, .inr (4, [.ref ht_text, .ref ht_bench, .ref ht_acts, .ref ht_drawers, .ref ht_told, .ref ht_pagesOfTrial, .ref ht_kept, .int vt_spoken, .long vt_nowSeed])), (ht_bench, .inr (1, [.ref ht_bench_drops, .ref ht_bench_from, .ref ht_bench_to, .ref ht_bench_tires, .ref ht_bench_copies, .ref ht_bench_pages, .int vt_bench_size])), (ht_bench_from, .inl (cI, 4, .inl (upd vt_bench_from a1.toNatClampNeg (0:Int32)))), (ht_bench_to, .inl (cI, 4, .inl (upd vt_bench_to a1.toNatClampNeg (0:Int32)))), (ht_bench_copies, .inl (cI, 4, .inl vt_bench_copies)), (ht_acts, .inr (0, [.ref ht_acts_before, .int x6.1])), (ht_acts_before, .inl (cJ, 16, .inr (.inl x6.2)))]) (w1 := []) hP hD [] [0, 1, 2, 3, 4, 5, 6] rfl rfl (by decide) (by decide) hk1 hFc hP1 hD1
      clear hP1 hK1 hD1 hPc hDc hFc hk1 hz1 hvm eth
      generalize H1 = H at hP hS ⊢
      have hP : va_P (dC, dI) vwCl [(ht, .inr (4, [.ref ht_text, .ref ht_bench, .ref ht_acts, .ref ht_drawers, .ref ht_told, .ref ht_pagesOfTrial, .ref ht_kept, .int vt_spoken, .long vt_nowSeed])), (ht_bench, .inr (1, [.ref ht_bench_drops, .ref ht_bench_from, .ref ht_bench_to, .ref ht_bench_tires, .ref ht_bench_copies, .ref ht_bench_pages, .int vt_bench_size])), (ht_bench_from, .inl (cI, 4, .inl (upd vt_bench_from a1.toNatClampNeg (0:Int32)))), (ht_bench_to, .inl (cI, 4, .inl (upd vt_bench_to a1.toNatClampNeg (0:Int32)))), (ht_bench_copies, .inl (cI, 4, .inl vt_bench_copies)), (ht_acts, .inr (0, [.ref ht_acts_before, .int x6.1])), (ht_acts_before, .inl (cJ, 16, .inr (.inl x6.2)))] H := hP
      have hD : va_D A [(ht, .inr (4, [.ref ht_text, .ref ht_bench, .ref ht_acts, .ref ht_drawers, .ref ht_told, .ref ht_pagesOfTrial, .ref ht_kept, .int vt_spoken, .long vt_nowSeed])), (ht_bench, .inr (1, [.ref ht_bench_drops, .ref ht_bench_from, .ref ht_bench_to, .ref ht_bench_tires, .ref ht_bench_copies, .ref ht_bench_pages, .int vt_bench_size])), (ht_bench_from, .inl (cI, 4, .inl (upd vt_bench_from a1.toNatClampNeg (0:Int32)))), (ht_bench_to, .inl (cI, 4, .inl (upd vt_bench_to a1.toNatClampNeg (0:Int32)))), (ht_bench_copies, .inl (cI, 4, .inl vt_bench_copies)), (ht_acts, .inr (0, [.ref ht_acts_before, .int x6.1])), (ht_acts_before, .inl (cJ, 16, .inr (.inl x6.2)))] := hD
      have he := Option.some.inj hf
      have hP9 := hP
      have hD9 := hD
      exact W.iret (v := x9) hx hb hr (fun t eth hW => ⟨⟨x9, ((upd vt_bench_from a1.toNatClampNeg (0:Int32)), (upd vt_bench_to a1.toNatClampNeg (0:Int32)), x6.1, x6.2), rfl, ⟨(congrArg Prod.fst he).symm, (congrArg Prod.snd he).symm⟩, by rw [eth]; exact hP9, va_K.moved hW.alike hK, hD9⟩, hS.F eth⟩) hS.2.2 dX5_reform_65
    · replace hf := dg_t c4 hf
      refine lv_bipush (v := -3) hx hb dX5_reform_27 (by decide) ?_
      have he := Option.some.inj hf
      have hP9 := (hP.sub (ws' := [(ht, .inr (4, [.ref ht_text, .ref ht_bench, .ref ht_acts, .ref ht_drawers, .ref ht_told, .ref ht_pagesOfTrial, .ref ht_kept, .int vt_spoken, .long vt_nowSeed])), (ht_bench, .inr (1, [.ref ht_bench_drops, .ref ht_bench_from, .ref ht_bench_to, .ref ht_bench_tires, .ref ht_bench_copies, .ref ht_bench_pages, .int vt_bench_size])), (ht_bench_from, .inl (cI, 4, .inl vt_bench_from)), (ht_bench_to, .inl (cI, 4, .inl vt_bench_to)), (ht_bench_copies, .inl (cI, 4, .inl vt_bench_copies)), (ht_acts, .inr (0, [.ref ht_acts_before, .int vt_acts_size])), (ht_acts_before, .inl (cJ, 16, .inr (.inl vt_acts_before)))]) [0, 6, 1, 2, 3, 4, 5] rfl)
      have hD9 := (hD.sub (ws' := [(ht, .inr (4, [.ref ht_text, .ref ht_bench, .ref ht_acts, .ref ht_drawers, .ref ht_told, .ref ht_pagesOfTrial, .ref ht_kept, .int vt_spoken, .long vt_nowSeed])), (ht_bench, .inr (1, [.ref ht_bench_drops, .ref ht_bench_from, .ref ht_bench_to, .ref ht_bench_tires, .ref ht_bench_copies, .ref ht_bench_pages, .int vt_bench_size])), (ht_bench_from, .inl (cI, 4, .inl vt_bench_from)), (ht_bench_to, .inl (cI, 4, .inl vt_bench_to)), (ht_bench_copies, .inl (cI, 4, .inl vt_bench_copies)), (ht_acts, .inr (0, [.ref ht_acts_before, .int vt_acts_size])), (ht_acts_before, .inl (cJ, 16, .inr (.inl vt_acts_before)))]) [0, 6, 1, 2, 3, 4, 5] (by decide) rfl)
      exact W.iret (v := (-3:Int32)) hx hb hr (fun t eth hW => ⟨⟨(-3:Int32), (vt_bench_from, vt_bench_to, vt_acts_size, vt_acts_before), rfl, ⟨(congrArg Prod.fst he).symm, (congrArg Prod.snd he).symm⟩, by rw [eth]; exact hP9, va_K.moved hW.alike hK, hD9⟩, hS.F eth⟩) hS.2.2 dX5_reform_29
  · replace hf := dg_t c2 hf
    refine lv_iconst (v := -1) hx hb dX5_reform_11 (by decide) ?_
    have he := Option.some.inj hf
    have hP9 := (hP.sub (ws' := [(ht, .inr (4, [.ref ht_text, .ref ht_bench, .ref ht_acts, .ref ht_drawers, .ref ht_told, .ref ht_pagesOfTrial, .ref ht_kept, .int vt_spoken, .long vt_nowSeed])), (ht_bench, .inr (1, [.ref ht_bench_drops, .ref ht_bench_from, .ref ht_bench_to, .ref ht_bench_tires, .ref ht_bench_copies, .ref ht_bench_pages, .int vt_bench_size])), (ht_bench_from, .inl (cI, 4, .inl vt_bench_from)), (ht_bench_to, .inl (cI, 4, .inl vt_bench_to)), (ht_bench_copies, .inl (cI, 4, .inl vt_bench_copies)), (ht_acts, .inr (0, [.ref ht_acts_before, .int vt_acts_size])), (ht_acts_before, .inl (cJ, 16, .inr (.inl vt_acts_before)))]) [0, 6, 1, 2, 3, 4, 5] rfl)
    have hD9 := (hD.sub (ws' := [(ht, .inr (4, [.ref ht_text, .ref ht_bench, .ref ht_acts, .ref ht_drawers, .ref ht_told, .ref ht_pagesOfTrial, .ref ht_kept, .int vt_spoken, .long vt_nowSeed])), (ht_bench, .inr (1, [.ref ht_bench_drops, .ref ht_bench_from, .ref ht_bench_to, .ref ht_bench_tires, .ref ht_bench_copies, .ref ht_bench_pages, .int vt_bench_size])), (ht_bench_from, .inl (cI, 4, .inl vt_bench_from)), (ht_bench_to, .inl (cI, 4, .inl vt_bench_to)), (ht_bench_copies, .inl (cI, 4, .inl vt_bench_copies)), (ht_acts, .inr (0, [.ref ht_acts_before, .int vt_acts_size])), (ht_acts_before, .inl (cJ, 16, .inr (.inl vt_acts_before)))]) [0, 6, 1, 2, 3, 4, 5] (by decide) rfl)
    exact W.iret (v := (-1:Int32)) hx hb hr (fun t eth hW => ⟨⟨(-1:Int32), (vt_bench_from, vt_bench_to, vt_acts_size, vt_acts_before), rfl, ⟨(congrArg Prod.fst he).symm, (congrArg Prod.snd he).symm⟩, by rw [eth]; exact hP9, va_K.moved hW.alike hK, hD9⟩, hS.F eth⟩) hS.2.2 dX5_reform_12
