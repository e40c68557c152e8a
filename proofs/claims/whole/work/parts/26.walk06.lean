theorem hd_X5_isLength : yX5_isLength.cls ≠ "java/lang/invoke/MethodHandle" ∧ yX5_isLength.cls ≠ "java/lang/invoke/VarHandle" ∧ (parseMethodDescriptor yX5_isLength.desc).map (fun d => d.parameters.length) = some 2 := by decide +kernel
abbrev rm_X5_isLength : Room := { frames := 0, cells := 0, slots := 0, locals := 0 }
abbrev q_X5_isLength (dC : Nat → ClassId) (dI : Nat → Nat → Nat) (cI cJ cZ : ClassId) (R : Int32) (A : Nat → Prop) : Array Value → State → Outcome → State → Prop := va_Qi (fun (r : Int32) (_ : Unit) => R = r) (fun (u : Unit) (t : State) => va_P (dC, dI) vwCl [] t.heap ∧ va_K (dC, dI) vwCl [(cI, .int), (cJ, .long), (cZ, .boolean)] t ∧ va_D A []) A
set_option maxHeartbeats 4000000 in
set_option maxRecDepth 100000 in
theorem k_X5_isLength (l : Launch) (dC : Nat → ClassId) (dI : Nat → Nat → Nat) (cI cJ cZ : ClassId) (sz : Nat) (a0 : Int32) (a1 : Int32) (N : Nat) (R : Int32) (hf : f_X5_isLength N a0 a1 = some R) : Met l yX5_isLength wsX5_isLength (rm_X5_isLength) (va_Pc [.int a0, .int a1] (fun U => U.heap.size = sz ∧ va_P (dC, dI) vwCl [] U.heap ∧ va_K (dC, dI) vwCl [(cI, .int), (cJ, .long), (cZ, .boolean)] U ∧ va_D (fun _ => True) [])) (q_X5_isLength dC dI cI cJ cZ  R (va_A [] sz)) 0 0 (va_A [] sz) := by
  refine Met.ofW (cc := cX5_isLength) (maxL := 2) (ret := (some .boolean)) (by decide) rfl ?_
  intro p e s m args below meth c s₁ B hml hv
  obtain ⟨rfl, hsz, hP, hK, hD0⟩ := hv
  have hx := B.exec
  have hb := B.bytes
  have hr := B.returns
  have hts := atoms_spec (ws := wsX5_isLength) B.pre
  have hown : s.vm.findClass RX5 = some m.cls := findClass_of_methodNamed B.named
  have hlocks := B.notSynchronized
  clear B
  subst hsz
  have hD := hD0.self (sz := s.heap.size)
  clear hD0
  generalize hAe : va_A [] s.heap.size = A at hD ⊢
  have hA : ∀ q : Nat, s.heap.size ≤ q → A q := fun q h => by rw [← hAe]; exact Or.inr h
  clear hAe
  have hS : va_S A s.heap s.heap [] := va_S.rf
  have hl := lv_entry ([.int a0, .int a1]) (n := 2) (Nat.le_of_ble_eq_true rfl)
  rw [lg_entry_eq]
  generalize (lg_sl ([.int a0, .int a1]) ++ List.replicate (2 - (lg_sl ([.int a0, .int a1])).length) Slot.unset).toArray = ls at hl ⊢
  have hl : lv_has ls 2 [(0, .int a0), (1, .int a1)] := hl
  unfold f_X5_isLength at hf
  refine lv_iload_n hx hb dX5_isLength_0 rfl (lv_at hl 0 rfl) ?_
  refine lv_iload_n hx hb dX5_isLength_1 rfl (lv_at hl 1 rfl) ?_
  refine lv_icmp_lt (tgt := 14) hx hb dX5_isLength_2 (by decide) (fun c1 => ?_) (fun c1 => ?_)
  · replace hf := dg_t c1 hf
    refine lv_iconst (v := 0) hx hb dX5_isLength_14 (by decide) ?_
    have he := Option.some.inj hf
    have hP9 := hP
    have hD9 := hD
    exact W.zret (v := (0:Int32)) (ty := .boolean) hx hb hr (by decide) (fun t eth hW => ⟨⟨(0:Int32), (), rfl, he.symm, by rw [eth]; exact hP9, va_K.moved hW.alike hK, hD9⟩, hS.F eth⟩) hS.2.2 dX5_isLength_15
  · replace hf := dg_f c1 hf
    refine lv_iload_n hx hb dX5_isLength_5 rfl (lv_at hl 0 rfl) ?_
    refine lv_iconst (v := 5) hx hb dX5_isLength_6 (by decide) ?_
    refine lv_icmp_gt (tgt := 14) hx hb dX5_isLength_7 (by decide) (fun c2 => ?_) (fun c2 => ?_)
    · replace hf := dg_t c2 hf
      refine lv_iconst (v := 0) hx hb dX5_isLength_14 (by decide) ?_
      have he := Option.some.inj hf
      have hP9 := hP
      have hD9 := hD
      exact W.zret (v := (0:Int32)) (ty := .boolean) hx hb hr (by decide) (fun t eth hW => ⟨⟨(0:Int32), (), rfl, he.symm, by rw [eth]; exact hP9, va_K.moved hW.alike hK, hD9⟩, hS.F eth⟩) hS.2.2 dX5_isLength_15
    · replace hf := dg_f c2 hf
      refine lv_iconst (v := 1) hx hb dX5_isLength_10 (by decide) ?_
      refine lv_goto (tgt := 15) hx hb dX5_isLength_11 (by decide) ?_
      have he := Option.some.inj hf
      have hP9 := hP
      have hD9 := hD
      exact W.zret (v := (1:Int32)) (ty := .boolean) hx hb hr (by decide) (fun t eth hW => ⟨⟨(1:Int32), (), rfl, he.symm, by rw [eth]; exact hP9, va_K.moved hW.alike hK, hD9⟩, hS.F eth⟩) hS.2.2 dX5_isLength_15
theorem hd_X5_isAsTold : yX5_isAsTold.cls = RX5 ∧ yX5_isAsTold.cls ≠ "java/lang/invoke/MethodHandle" ∧ yX5_isAsTold.cls ≠ "java/lang/invoke/VarHandle" ∧ (parseMethodDescriptor yX5_isAsTold.desc).map (fun d => d.parameters.length) = some 1 := by decide +kernel
abbrev rm_X5_isAsTold : Room := { frames := 4, cells := 0, slots := 0, locals := 96 }
abbrev q_X5_isAsTold (dC : Nat → ClassId) (dI : Nat → Nat → Nat) (cI cJ cZ : ClassId) (ht ht_text ht_bench ht_acts ht_drawers ht_told ht_pagesOfTrial ht_kept ht_bench_drops ht_bench_from ht_bench_to ht_bench_tires ht_bench_copies ht_bench_pages : Nat) (vt_spoken : Int32) (vt_nowSeed : Int64) (vt_bench_size : Int32) (vt_bench_drops : Nat → Int32) (vt_bench_from : Nat → Int32) (vt_bench_to : Nat → Int32) (vt_bench_tires : Nat → Int32) (vt_bench_copies : Nat → Int32) (vt_told : Nat → Int32) (R : Int32 × (Nat → Int32)) (A : Nat → Prop) : Array Value → State → Outcome → State → Prop := va_Qi (fun (r : Int32) (u : (Nat → Int32)) => R.1 = r ∧ R.2 = u) (fun (u : (Nat → Int32)) (t : State) => va_P (dC, dI) vwCl [(ht, .inr (4, [.ref ht_text, .ref ht_bench, .ref ht_acts, .ref ht_drawers, .ref ht_told, .ref ht_pagesOfTrial, .ref ht_kept, .int vt_spoken, .long vt_nowSeed])), (ht_bench, .inr (1, [.ref ht_bench_drops, .ref ht_bench_from, .ref ht_bench_to, .ref ht_bench_tires, .ref ht_bench_copies, .ref ht_bench_pages, .int vt_bench_size])), (ht_bench_drops, .inl (cI, 4, .inl vt_bench_drops)), (ht_bench_from, .inl (cI, 4, .inl vt_bench_from)), (ht_bench_to, .inl (cI, 4, .inl vt_bench_to)), (ht_bench_tires, .inl (cI, 4, .inl vt_bench_tires)), (ht_bench_copies, .inl (cI, 4, .inl vt_bench_copies)), (ht_bench_pages, .inl (cI, 4, .inl u)), (ht_told, .inl (cI, 4, .inl vt_told))] t.heap ∧ va_K (dC, dI) vwCl [(cI, .int), (cJ, .long), (cZ, .boolean)] t ∧ va_D A [(ht, .inr (4, [.ref ht_text, .ref ht_bench, .ref ht_acts, .ref ht_drawers, .ref ht_told, .ref ht_pagesOfTrial, .ref ht_kept, .int vt_spoken, .long vt_nowSeed])), (ht_bench, .inr (1, [.ref ht_bench_drops, .ref ht_bench_from, .ref ht_bench_to, .ref ht_bench_tires, .ref ht_bench_copies, .ref ht_bench_pages, .int vt_bench_size])), (ht_bench_drops, .inl (cI, 4, .inl vt_bench_drops)), (ht_bench_from, .inl (cI, 4, .inl vt_bench_from)), (ht_bench_to, .inl (cI, 4, .inl vt_bench_to)), (ht_bench_tires, .inl (cI, 4, .inl vt_bench_tires)), (ht_bench_copies, .inl (cI, 4, .inl vt_bench_copies)), (ht_bench_pages, .inl (cI, 4, .inl u)), (ht_told, .inl (cI, 4, .inl vt_told))]) A
set_option maxHeartbeats 4000000 in
set_option maxRecDepth 100000 in
theorem k_X5_isAsTold (l : Launch) (dC : Nat → ClassId) (dI : Nat → Nat → Nat) (cI cJ cZ : ClassId) (sz : Nat) (ht ht_text ht_bench ht_acts ht_drawers ht_told ht_pagesOfTrial ht_kept ht_bench_drops ht_bench_from ht_bench_to ht_bench_tires ht_bench_copies ht_bench_pages : Nat) (a1 : Int32) (vt_spoken : Int32) (vt_nowSeed : Int64) (vt_bench_size : Int32) (vt_bench_drops : Nat → Int32) (vt_bench_from : Nat → Int32) (vt_bench_to : Nat → Int32) (vt_bench_tires : Nat → Int32) (vt_bench_copies : Nat → Int32) (vt_bench_pages : Nat → Int32) (vt_told : Nat → Int32) (N : Nat) (R : Int32 × (Nat → Int32)) (hf : f_X5_isAsTold N a1 vt_bench_size vt_bench_drops vt_bench_from vt_bench_to vt_bench_tires vt_bench_copies vt_bench_pages vt_told = some R) : Met l yX5_isAsTold wsX5_isAsTold (rm_X5_isAsTold) (va_Pc [.ref ht, .int a1] (fun U => U.heap.size = sz ∧ va_P (dC, dI) vwCl [(ht, .inr (4, [.ref ht_text, .ref ht_bench, .ref ht_acts, .ref ht_drawers, .ref ht_told, .ref ht_pagesOfTrial, .ref ht_kept, .int vt_spoken, .long vt_nowSeed])), (ht_bench, .inr (1, [.ref ht_bench_drops, .ref ht_bench_from, .ref ht_bench_to, .ref ht_bench_tires, .ref ht_bench_copies, .ref ht_bench_pages, .int vt_bench_size])), (ht_bench_drops, .inl (cI, 4, .inl vt_bench_drops)), (ht_bench_from, .inl (cI, 4, .inl vt_bench_from)), (ht_bench_to, .inl (cI, 4, .inl vt_bench_to)), (ht_bench_tires, .inl (cI, 4, .inl vt_bench_tires)), (ht_bench_copies, .inl (cI, 4, .inl vt_bench_copies)), (ht_bench_pages, .inl (cI, 4, .inl vt_bench_pages)), (ht_told, .inl (cI, 4, .inl vt_told))] U.heap ∧ va_K (dC, dI) vwCl [(cI, .int), (cJ, .long), (cZ, .boolean)] U ∧ va_D (fun _ => True) [(ht, .inr (4, [.ref ht_text, .ref ht_bench, .ref ht_acts, .ref ht_drawers, .ref ht_told, .ref ht_pagesOfTrial, .ref ht_kept, .int vt_spoken, .long vt_nowSeed])), (ht_bench, .inr (1, [.ref ht_bench_drops, .ref ht_bench_from, .ref ht_bench_to, .ref ht_bench_tires, .ref ht_bench_copies, .ref ht_bench_pages, .int vt_bench_size])), (ht_bench_drops, .inl (cI, 4, .inl vt_bench_drops)), (ht_bench_from, .inl (cI, 4, .inl vt_bench_from)), (ht_bench_to, .inl (cI, 4, .inl vt_bench_to)), (ht_bench_tires, .inl (cI, 4, .inl vt_bench_tires)), (ht_bench_copies, .inl (cI, 4, .inl vt_bench_copies)), (ht_bench_pages, .inl (cI, 4, .inl vt_bench_pages)), (ht_told, .inl (cI, 4, .inl vt_told))])) (q_X5_isAsTold dC dI cI cJ cZ ht ht_text ht_bench ht_acts ht_drawers ht_told ht_pagesOfTrial ht_kept ht_bench_drops ht_bench_from ht_bench_to ht_bench_tires ht_bench_copies ht_bench_pages vt_spoken vt_nowSeed vt_bench_size vt_bench_drops vt_bench_from vt_bench_to vt_bench_tires vt_bench_copies vt_told R (va_A [(ht, .inr (4, [.ref ht_text, .ref ht_bench, .ref ht_acts, .ref ht_drawers, .ref ht_told, .ref ht_pagesOfTrial, .ref ht_kept, .int vt_spoken, .long vt_nowSeed])), (ht_bench, .inr (1, [.ref ht_bench_drops, .ref ht_bench_from, .ref ht_bench_to, .ref ht_bench_tires, .ref ht_bench_copies, .ref ht_bench_pages, .int vt_bench_size])), (ht_bench_drops, .inl (cI, 4, .inl vt_bench_drops)), (ht_bench_from, .inl (cI, 4, .inl vt_bench_from)), (ht_bench_to, .inl (cI, 4, .inl vt_bench_to)), (ht_bench_tires, .inl (cI, 4, .inl vt_bench_tires)), (ht_bench_copies, .inl (cI, 4, .inl vt_bench_copies)), (ht_bench_pages, .inl (cI, 4, .inl vt_bench_pages)), (ht_told, .inl (cI, 4, .inl vt_told))] sz)) 0 0 (va_A [(ht, .inr (4, [.ref ht_text, .ref ht_bench, .ref ht_acts, .ref ht_drawers, .ref ht_told, .ref ht_pagesOfTrial, .ref ht_kept, .int vt_spoken, .long vt_nowSeed])), (ht_bench, .inr (1, [.ref ht_bench_drops, .ref ht_bench_from, .ref ht_bench_to, .ref ht_bench_tires, .ref ht_bench_copies, .ref ht_bench_pages, .int vt_bench_size])), (ht_bench_drops, .inl (cI, 4, .inl vt_bench_drops)), (ht_bench_from, .inl (cI, 4, .inl vt_bench_from)), (ht_bench_to, .inl (cI, 4, .inl vt_bench_to)), (ht_bench_tires, .inl (cI, 4, .inl vt_bench_tires)), (ht_bench_copies, .inl (cI, 4, .inl vt_bench_copies)), (ht_bench_pages, .inl (cI, 4, .inl vt_bench_pages)), (ht_told, .inl (cI, 4, .inl vt_told))] sz) := by
  refine Met.ofW (cc := cX5_isAsTold) (maxL := 3) (ret := (some .boolean)) (by decide) rfl ?_
  intro p e s m args below meth c s₁ B hml hv
  obtain ⟨rfl, hsz, hP, hK, hD0⟩ := hv
  have hx := B.exec
  have hb := B.bytes
  have hr := B.returns
  have hts := atoms_spec (ws := wsX5_isAsTold) B.pre
  have hown : s.vm.findClass RX5 = some m.cls := findClass_of_methodNamed B.named
  have hlocks := B.notSynchronized
  clear B
  subst hsz
  have hw0 := hts (.fieldLink RX5 19 "ShorthandCourt" "bench" "LShorthandCourt$Bench;") (by decide +kernel)
  have hw1 := hts (.fieldLink RX5 83 "ShorthandCourt$Bench" "size" "I") (by decide +kernel)
  have hw2 := hts (.fieldLink RX5 37 "ShorthandCourt" "told" "[I") (by decide +kernel)
  have hw3 := hts (.fieldLink RX5 193 "ShorthandCourt$Bench" "pages" "[I") (by decide +kernel)
  have hinX1 : ∀ w ∈ u_ws RX1 TX1 7, w ∈ wsX5_isAsTold := by decide +kernel
  have hinX5 : ∀ w ∈ u_ws RX5 TX5 9, w ∈ wsX5_isAsTold := by decide +kernel
  have hD := hD0.self (sz := s.heap.size)
  clear hD0
  generalize hAe : va_A [(ht, .inr (4, [.ref ht_text, .ref ht_bench, .ref ht_acts, .ref ht_drawers, .ref ht_told, .ref ht_pagesOfTrial, .ref ht_kept, .int vt_spoken, .long vt_nowSeed])), (ht_bench, .inr (1, [.ref ht_bench_drops, .ref ht_bench_from, .ref ht_bench_to, .ref ht_bench_tires, .ref ht_bench_copies, .ref ht_bench_pages, .int vt_bench_size])), (ht_bench_drops, .inl (cI, 4, .inl vt_bench_drops)), (ht_bench_from, .inl (cI, 4, .inl vt_bench_from)), (ht_bench_to, .inl (cI, 4, .inl vt_bench_to)), (ht_bench_tires, .inl (cI, 4, .inl vt_bench_tires)), (ht_bench_copies, .inl (cI, 4, .inl vt_bench_copies)), (ht_bench_pages, .inl (cI, 4, .inl vt_bench_pages)), (ht_told, .inl (cI, 4, .inl vt_told))] s.heap.size = A at hD ⊢
  have hA : ∀ q : Nat, s.heap.size ≤ q → A q := fun q h => by rw [← hAe]; exact Or.inr h
  clear hAe
  have hS : va_S A s.heap s.heap [] := va_S.rf
  have hl := lv_entry ([.ref ht, .int a1]) (n := 3) (Nat.le_of_ble_eq_true rfl)
  rw [lg_entry_eq]
  generalize (lg_sl ([.ref ht, .int a1]) ++ List.replicate (3 - (lg_sl ([.ref ht, .int a1])).length) Slot.unset).toArray = ls at hl ⊢
  have hl : lv_has ls 3 [(0, .ref ht), (1, .int a1)] := hl
  unfold f_X5_isAsTold at hf
  refine lv_iconst (v := 0) hx hb dX5_isAsTold_0 (by decide) ?_
  refine lv_istore_n (lv' := [(2, .int (0:Int32)), (0, .ref ht), (1, .int a1)]) hx hb dX5_isAsTold_1 rfl hl (by decide) rfl (fun ls hl => ?_)
  have ex2 : ∀ (z2_2 : Int32) (zvt_bench_pages_2 : (Nat → Int32)) (H : Heap) (locs : List Loc) (ls : Array Slot), va_P (dC, dI) vwCl [(ht, .inr (4, [.ref ht_text, .ref ht_bench, .ref ht_acts, .ref ht_drawers, .ref ht_told, .ref ht_pagesOfTrial, .ref ht_kept, .int vt_spoken, .long vt_nowSeed])), (ht_bench, .inr (1, [.ref ht_bench_drops, .ref ht_bench_from, .ref ht_bench_to, .ref ht_bench_tires, .ref ht_bench_copies, .ref ht_bench_pages, .int vt_bench_size])), (ht_bench_drops, .inl (cI, 4, .inl vt_bench_drops)), (ht_bench_from, .inl (cI, 4, .inl vt_bench_from)), (ht_bench_to, .inl (cI, 4, .inl vt_bench_to)), (ht_bench_tires, .inl (cI, 4, .inl vt_bench_tires)), (ht_bench_copies, .inl (cI, 4, .inl vt_bench_copies)), (ht_bench_pages, .inl (cI, 4, .inl zvt_bench_pages_2)), (ht_told, .inl (cI, 4, .inl vt_told))] H → va_D A [(ht, .inr (4, [.ref ht_text, .ref ht_bench, .ref ht_acts, .ref ht_drawers, .ref ht_told, .ref ht_pagesOfTrial, .ref ht_kept, .int vt_spoken, .long vt_nowSeed])), (ht_bench, .inr (1, [.ref ht_bench_drops, .ref ht_bench_from, .ref ht_bench_to, .ref ht_bench_tires, .ref ht_bench_copies, .ref ht_bench_pages, .int vt_bench_size])), (ht_bench_drops, .inl (cI, 4, .inl vt_bench_drops)), (ht_bench_from, .inl (cI, 4, .inl vt_bench_from)), (ht_bench_to, .inl (cI, 4, .inl vt_bench_to)), (ht_bench_tires, .inl (cI, 4, .inl vt_bench_tires)), (ht_bench_copies, .inl (cI, 4, .inl vt_bench_copies)), (ht_bench_pages, .inl (cI, 4, .inl zvt_bench_pages_2)), (ht_told, .inl (cI, 4, .inl vt_told))] → va_S A s.heap H locs → lv_has ls 3 [(2, .int z2_2), (0, .ref ht), (1, .int a1)] → (some ((1:Int32), zvt_bench_pages_2)) = some R → W p l e (rm_X5_isAsTold) s m ([.ref ht, .int a1] : List Value).toArray below meth c H locs 0 0 (MQ below (q_X5_isAsTold dC dI cI cJ cZ ht ht_text ht_bench ht_acts ht_drawers ht_told ht_pagesOfTrial ht_kept ht_bench_drops ht_bench_from ht_bench_to ht_bench_tires ht_bench_copies ht_bench_pages vt_spoken vt_nowSeed vt_bench_size vt_bench_drops vt_bench_from vt_bench_to vt_bench_tires vt_bench_copies vt_told R A) ([.ref ht, .int a1] : List Value).toArray s 0 0 A) (F0 m 57 ls []) := by
    intro z2_2 zvt_bench_pages_2 H locs ls hP hD hS hl hf
    refine lv_iconst (v := 1) hx hb dX5_isAsTold_57 (by decide) ?_
    have he := Option.some.inj hf
    have hP9 := hP
    have hD9 := hD
    exact W.zret (v := (1:Int32)) (ty := .boolean) hx hb hr (by decide) (fun t eth hW => ⟨⟨(1:Int32), zvt_bench_pages_2, rfl, ⟨(congrArg Prod.fst he).symm, (congrArg Prod.snd he).symm⟩, by rw [eth]; exact hP9, va_K.moved hW.alike hK, hD9⟩, hS.F eth⟩) hS.2.2 dX5_isAsTold_58
  have lp2 : ∀ (n2 : Nat) (y2_2 : Int32) (yvt_bench_pages_2 : (Nat → Int32)) (H : Heap) (locs : List Loc) (ls : Array Slot), va_P (dC, dI) vwCl [(ht, .inr (4, [.ref ht_text, .ref ht_bench, .ref ht_acts, .ref ht_drawers, .ref ht_told, .ref ht_pagesOfTrial, .ref ht_kept, .int vt_spoken, .long vt_nowSeed])), (ht_bench, .inr (1, [.ref ht_bench_drops, .ref ht_bench_from, .ref ht_bench_to, .ref ht_bench_tires, .ref ht_bench_copies, .ref ht_bench_pages, .int vt_bench_size])), (ht_bench_drops, .inl (cI, 4, .inl vt_bench_drops)), (ht_bench_from, .inl (cI, 4, .inl vt_bench_from)), (ht_bench_to, .inl (cI, 4, .inl vt_bench_to)), (ht_bench_tires, .inl (cI, 4, .inl vt_bench_tires)), (ht_bench_copies, .inl (cI, 4, .inl vt_bench_copies)), (ht_bench_pages, .inl (cI, 4, .inl yvt_bench_pages_2)), (ht_told, .inl (cI, 4, .inl vt_told))] H → va_D A [(ht, .inr (4, [.ref ht_text, .ref ht_bench, .ref ht_acts, .ref ht_drawers, .ref ht_told, .ref ht_pagesOfTrial, .ref ht_kept, .int vt_spoken, .long vt_nowSeed])), (ht_bench, .inr (1, [.ref ht_bench_drops, .ref ht_bench_from, .ref ht_bench_to, .ref ht_bench_tires, .ref ht_bench_copies, .ref ht_bench_pages, .int vt_bench_size])), (ht_bench_drops, .inl (cI, 4, .inl vt_bench_drops)), (ht_bench_from, .inl (cI, 4, .inl vt_bench_from)), (ht_bench_to, .inl (cI, 4, .inl vt_bench_to)), (ht_bench_tires, .inl (cI, 4, .inl vt_bench_tires)), (ht_bench_copies, .inl (cI, 4, .inl vt_bench_copies)), (ht_bench_pages, .inl (cI, 4, .inl yvt_bench_pages_2)), (ht_told, .inl (cI, 4, .inl vt_told))] → va_S A s.heap H locs → lv_has ls 3 [(2, .int y2_2), (0, .ref ht), (1, .int a1)] → f_X5_isAsTold_2 N a1 vt_bench_size vt_bench_drops vt_bench_from vt_bench_to vt_bench_tires vt_bench_copies vt_told (fun z2_2 zvt_bench_pages_2 => some ((1:Int32), zvt_bench_pages_2)) n2 y2_2 yvt_bench_pages_2 = some R → W p l e (rm_X5_isAsTold) s m ([.ref ht, .int a1] : List Value).toArray below meth c H locs 0 0 (MQ below (q_X5_isAsTold dC dI cI cJ cZ ht ht_text ht_bench ht_acts ht_drawers ht_told ht_pagesOfTrial ht_kept ht_bench_drops ht_bench_from ht_bench_to ht_bench_tires ht_bench_copies ht_bench_pages vt_spoken vt_nowSeed vt_bench_size vt_bench_drops vt_bench_from vt_bench_to vt_bench_tires vt_bench_copies vt_told R A) ([.ref ht, .int a1] : List Value).toArray s 0 0 A) (F0 m 2 ls []) := by
    intro n2
    induction n2 with
    | zero => intro y2_2 yvt_bench_pages_2 H locs ls hP hD hS hl hf; rw [f_X5_isAsTold_2] at hf; cases hf
    | succ n2 ih2 =>
      intro y2_2 yvt_bench_pages_2 H locs ls hP hD hS hl hf
      rw [f_X5_isAsTold_2] at hf
      refine lv_iload_n hx hb dX5_isAsTold_2 rfl (lv_at hl 0 rfl) ?_
      refine lv_aload_n hx hb dX5_isAsTold_3 rfl (lv_at hl 1 rfl) ?_
      refine va_get (D := (dC, dI)) (ci := 4) (v := .ref ht_bench) (C := RX5) (T := TX5) (N := 9) hx hb hts hinX5 hown hK hP 0 rfl rfl 1 (by decide) hw0 (fun _ h9 => h9) rfl dX5_isAsTold_4 ?_
      refine va_get (D := (dC, dI)) (ci := 1) (v := .int vt_bench_size) (C := RX1) (T := TX1) (N := 7) hx hb hts hinX1 hown hK hP 1 rfl rfl 6 (by decide) hw1 (fun _ h9 => h9) rfl dX5_isAsTold_7 ?_
      refine lv_icmp_ge (tgt := 57) hx hb dX5_isAsTold_10 (by decide) (fun c1 => ?_) (fun c1 => ?_)
      · replace hf := dg_t c1 hf
        exact ex2 y2_2 yvt_bench_pages_2 _ _ _ hP hD hS (lv_sub hl [0, 1, 2] rfl) hf
      · replace hf := dg_f c1 hf
        refine lv_aload_n hx hb dX5_isAsTold_13 rfl (lv_at hl 1 rfl) ?_
        refine va_get (D := (dC, dI)) (ci := 4) (v := .ref ht_bench) (C := RX5) (T := TX5) (N := 9) hx hb hts hinX5 hown hK hP 0 rfl rfl 1 (by decide) hw0 (fun _ h9 => h9) rfl dX5_isAsTold_14 ?_
        refine lv_iload_n hx hb dX5_isAsTold_17 rfl (lv_at hl 0 rfl) ?_
        refine lv_iload_n hx hb dX5_isAsTold_18 rfl (lv_at hl 2 rfl) ?_
        obtain ⟨x2, hx2, hf⟩ := dg_bind hf
        have hPc : va_P (dC, dI) vwCl [(ht_bench, .inr (1, [.ref ht_bench_drops, .ref ht_bench_from, .ref ht_bench_to, .ref ht_bench_tires, .ref ht_bench_copies, .ref ht_bench_pages, .int vt_bench_size])), (ht_bench_drops, .inl (cI, 4, .inl vt_bench_drops)), (ht_bench_from, .inl (cI, 4, .inl vt_bench_from)), (ht_bench_to, .inl (cI, 4, .inl vt_bench_to)), (ht_bench_tires, .inl (cI, 4, .inl vt_bench_tires)), (ht_bench_copies, .inl (cI, 4, .inl vt_bench_copies)), (ht_bench_pages, .inl (cI, 4, .inl yvt_bench_pages_2))] H := hP.sub [1, 2, 3, 4, 5, 6, 7] rfl
        have hDc : va_D A [(ht_bench, .inr (1, [.ref ht_bench_drops, .ref ht_bench_from, .ref ht_bench_to, .ref ht_bench_tires, .ref ht_bench_copies, .ref ht_bench_pages, .int vt_bench_size])), (ht_bench_drops, .inl (cI, 4, .inl vt_bench_drops)), (ht_bench_from, .inl (cI, 4, .inl vt_bench_from)), (ht_bench_to, .inl (cI, 4, .inl vt_bench_to)), (ht_bench_tires, .inl (cI, 4, .inl vt_bench_tires)), (ht_bench_copies, .inl (cI, 4, .inl vt_bench_copies)), (ht_bench_pages, .inl (cI, 4, .inl yvt_bench_pages_2))] := hD.sub [1, 2, 3, 4, 5, 6, 7] (by decide) rfl
        have hFc := va_free (wc := [(ht_bench, .inr (1, [.ref ht_bench_drops, .ref ht_bench_from, .ref ht_bench_to, .ref ht_bench_tires, .ref ht_bench_copies, .ref ht_bench_pages, .int vt_bench_size])), (ht_bench_drops, .inl (cI, 4, .inl vt_bench_drops)), (ht_bench_from, .inl (cI, 4, .inl vt_bench_from)), (ht_bench_to, .inl (cI, 4, .inl vt_bench_to)), (ht_bench_tires, .inl (cI, 4, .inl vt_bench_tires)), (ht_bench_copies, .inl (cI, 4, .inl vt_bench_copies)), (ht_bench_pages, .inl (cI, 4, .inl yvt_bench_pages_2))]) hD hS hA [1, 2, 3, 4, 5, 6, 7] rfl
        refine va_callv (va_runV (As := [.int y2_2, .int a1]) (rest := []) ⟨hx, hb, hml, hown, hts⟩ (k_X1_takeDownBy l dC dI cI cJ cZ H.size ht_bench ht_bench_drops ht_bench_from ht_bench_to ht_bench_tires ht_bench_copies ht_bench_pages y2_2 a1 vt_bench_size vt_bench_drops vt_bench_from vt_bench_to vt_bench_tires vt_bench_copies yvt_bench_pages_2 N x2 hx2) (cwV 2 hts gX5_isAsTold_X1_takeDownBy rfl rfl rfl hd_X1_takeDownBy ⟨Nat.le_of_ble_eq_true rfl, Nat.le_of_ble_eq_true rfl⟩) ⟨blind_pc, va_recv hK hPc (ci := 1) (q0 := 0) rfl rfl, pre_pc hPc hK hDc⟩ rfl rfl hl.1 rfl (lv_room (Nat.le_of_ble_eq_true rfl)) dX5_isAsTold_19 ⟨Nat.zero_le _, Nat.zero_le _⟩) hS (fun q _ h => hFc q h) hFc (fun u t H1 locs eth hvm hw hB hz1 hk1 hS => ?_)
        obtain ⟨hP1, hK1, hD1⟩ := hB
        rw [eth] at hP1
        subst hw
        obtain ⟨hP, hD⟩ := va_join (wr := [(ht, .inr (4, [.ref ht_text, .ref ht_bench, .ref ht_acts, .ref ht_drawers, .ref ht_told, .ref ht_pagesOfTrial, .ref ht_kept, .int vt_spoken, .long vt_nowSeed])), (ht_told, .inl (cI, 4, .inl vt_told))]) (w1 := [(ht_bench, .inr (1, [.ref ht_bench_drops, .ref ht_bench_from, .ref ht_bench_to, .ref ht_bench_tires, .ref ht_bench_copies, .ref ht_bench_pages, .int vt_bench_size])), (ht_bench_drops, .inl (cI, 4, .inl vt_bench_drops)), (ht_bench_from, .inl (cI, 4, .inl vt_bench_from)), (ht_bench_to, .inl (cI, 4, .inl vt_bench_to)), (ht_bench_tires, .inl (cI, 4, .inl vt_bench_tires)), (ht_bench_copies, .inl (cI, 4, .inl vt_bench_copies)), (ht_bench_pages, .inl (cI, 4, .inl x2))]) hP hD [1, 2, 3, 4, 5, 6, 7] [0, 8] rfl rfl (by decide) (by decide) hk1 hFc hP1 hD1
        clear hP1 hK1 hD1 hPc hDc hFc hk1 hz1 hvm eth
        generalize H1 = H at hP hS ⊢
        have hP : va_P (dC, dI) vwCl [(ht, .inr (4, [.ref ht_text, .ref ht_bench, .ref ht_acts, .ref ht_drawers, .ref ht_told, .ref ht_pagesOfTrial, .ref ht_kept, .int vt_spoken, .long vt_nowSeed])), (ht_told, .inl (cI, 4, .inl vt_told)), (ht_bench, .inr (1, [.ref ht_bench_drops, .ref ht_bench_from, .ref ht_bench_to, .ref ht_bench_tires, .ref ht_bench_copies, .ref ht_bench_pages, .int vt_bench_size])), (ht_bench_drops, .inl (cI, 4, .inl vt_bench_drops)), (ht_bench_from, .inl (cI, 4, .inl vt_bench_from)), (ht_bench_to, .inl (cI, 4, .inl vt_bench_to)), (ht_bench_tires, .inl (cI, 4, .inl vt_bench_tires)), (ht_bench_copies, .inl (cI, 4, .inl vt_bench_copies)), (ht_bench_pages, .inl (cI, 4, .inl x2))] H := hP
        have hD : va_D A [(ht, .inr (4, [.ref ht_text, .ref ht_bench, .ref ht_acts, .ref ht_drawers, .ref ht_told, .ref ht_pagesOfTrial, .ref ht_kept, .int vt_spoken, .long vt_nowSeed])), (ht_told, .inl (cI, 4, .inl vt_told)), (ht_bench, .inr (1, [.ref ht_bench_drops, .ref ht_bench_from, .ref ht_bench_to, .ref ht_bench_tires, .ref ht_bench_copies, .ref ht_bench_pages, .int vt_bench_size])), (ht_bench_drops, .inl (cI, 4, .inl vt_bench_drops)), (ht_bench_from, .inl (cI, 4, .inl vt_bench_from)), (ht_bench_to, .inl (cI, 4, .inl vt_bench_to)), (ht_bench_tires, .inl (cI, 4, .inl vt_bench_tires)), (ht_bench_copies, .inl (cI, 4, .inl vt_bench_copies)), (ht_bench_pages, .inl (cI, 4, .inl x2))] := hD
        refine lv_aload_n hx hb dX5_isAsTold_22 rfl (lv_at hl 1 rfl) ?_
        refine va_get (D := (dC, dI)) (ci := 4) (v := .ref ht_told) (C := RX5) (T := TX5) (N := 9) hx hb hts hinX5 hown hK hP 0 rfl rfl 4 (by decide) hw2 (fun _ h9 => h9) rfl dX5_isAsTold_23 ?_
        refine lv_iload_n hx hb dX5_isAsTold_26 rfl (lv_at hl 0 rfl) ?_
        obtain ⟨hi3, hf⟩ := dg_ix hf
        refine va_iald hx hb hK hP 1 0 rfl rfl hi3 dX5_isAsTold_27 ?_
        refine lv_if_eq (tgt := 51) hx hb dX5_isAsTold_28 (by decide) (fun c4 => ?_) (fun c4 => ?_)
        · replace hf := dg_t c4 hf
          refine lv_iinc (v := (y2_2 + (1:Int32))) (lv' := [(2, .int (y2_2 + (1:Int32))), (0, .ref ht), (1, .int a1)]) hx hb dX5_isAsTold_51 hl (k := 0) rfl (by first | rfl | decide) (by decide) rfl (fun ls hl => ?_)
          refine lv_goto (tgt := 2) hx hb dX5_isAsTold_54 (by decide) ?_
          exact ih2 (y2_2 + (1:Int32)) x2 _ _ _ (hP.sub (ws' := [(ht, .inr (4, [.ref ht_text, .ref ht_bench, .ref ht_acts, .ref ht_drawers, .ref ht_told, .ref ht_pagesOfTrial, .ref ht_kept, .int vt_spoken, .long vt_nowSeed])), (ht_bench, .inr (1, [.ref ht_bench_drops, .ref ht_bench_from, .ref ht_bench_to, .ref ht_bench_tires, .ref ht_bench_copies, .ref ht_bench_pages, .int vt_bench_size])), (ht_bench_drops, .inl (cI, 4, .inl vt_bench_drops)), (ht_bench_from, .inl (cI, 4, .inl vt_bench_from)), (ht_bench_to, .inl (cI, 4, .inl vt_bench_to)), (ht_bench_tires, .inl (cI, 4, .inl vt_bench_tires)), (ht_bench_copies, .inl (cI, 4, .inl vt_bench_copies)), (ht_bench_pages, .inl (cI, 4, .inl x2)), (ht_told, .inl (cI, 4, .inl vt_told))]) [0, 2, 3, 4, 5, 6, 7, 8, 1] rfl) (hD.sub (ws' := [(ht, .inr (4, [.ref ht_text, .ref ht_bench, .ref ht_acts, .ref ht_drawers, .ref ht_told, .ref ht_pagesOfTrial, .ref ht_kept, .int vt_spoken, .long vt_nowSeed])), (ht_bench, .inr (1, [.ref ht_bench_drops, .ref ht_bench_from, .ref ht_bench_to, .ref ht_bench_tires, .ref ht_bench_copies, .ref ht_bench_pages, .int vt_bench_size])), (ht_bench_drops, .inl (cI, 4, .inl vt_bench_drops)), (ht_bench_from, .inl (cI, 4, .inl vt_bench_from)), (ht_bench_to, .inl (cI, 4, .inl vt_bench_to)), (ht_bench_tires, .inl (cI, 4, .inl vt_bench_tires)), (ht_bench_copies, .inl (cI, 4, .inl vt_bench_copies)), (ht_bench_pages, .inl (cI, 4, .inl x2)), (ht_told, .inl (cI, 4, .inl vt_told))]) [0, 2, 3, 4, 5, 6, 7, 8, 1] (by decide) rfl) hS (lv_sub hl [0, 1, 2] rfl) hf
        · replace hf := dg_f c4 hf
          refine lv_aload_n hx hb dX5_isAsTold_31 rfl (lv_at hl 1 rfl) ?_
          refine va_get (D := (dC, dI)) (ci := 4) (v := .ref ht_told) (C := RX5) (T := TX5) (N := 9) hx hb hts hinX5 hown hK hP 0 rfl rfl 4 (by decide) hw2 (fun _ h9 => h9) rfl dX5_isAsTold_32 ?_
          refine lv_iload_n hx hb dX5_isAsTold_35 rfl (lv_at hl 0 rfl) ?_
          obtain ⟨hi5, hf⟩ := dg_ix hf
          refine va_iald hx hb hK hP 1 0 rfl rfl hi5 dX5_isAsTold_36 ?_
          refine lv_aload_n hx hb dX5_isAsTold_37 rfl (lv_at hl 1 rfl) ?_
          refine va_get (D := (dC, dI)) (ci := 4) (v := .ref ht_bench) (C := RX5) (T := TX5) (N := 9) hx hb hts hinX5 hown hK hP 0 rfl rfl 1 (by decide) hw0 (fun _ h9 => h9) rfl dX5_isAsTold_38 ?_
          refine va_get (D := (dC, dI)) (ci := 1) (v := .ref ht_bench_pages) (C := RX1) (T := TX1) (N := 7) hx hb hts hinX1 hown hK hP 2 rfl rfl 5 (by decide) hw3 (fun _ h9 => h9) rfl dX5_isAsTold_41 ?_
          refine lv_iload_n hx hb dX5_isAsTold_44 rfl (lv_at hl 0 rfl) ?_
          obtain ⟨hi6, hf⟩ := dg_ix hf
          refine va_iald hx hb hK hP 8 0 rfl rfl hi6 dX5_isAsTold_45 ?_
          refine lv_icmp_eq (tgt := 51) hx hb dX5_isAsTold_46 (by decide) (fun c7 => ?_) (fun c7 => ?_)
          · replace hf := dg_t c7 hf
            refine lv_iinc (v := (y2_2 + (1:Int32))) (lv' := [(2, .int (y2_2 + (1:Int32))), (0, .ref ht), (1, .int a1)]) hx hb dX5_isAsTold_51 hl (k := 0) rfl (by first | rfl | decide) (by decide) rfl (fun ls hl => ?_)
            refine lv_goto (tgt := 2) hx hb dX5_isAsTold_54 (by decide) ?_
            exact ih2 (y2_2 + (1:Int32)) x2 _ _ _ (hP.sub (ws' := [(ht, .inr (4, [.ref ht_text, .ref ht_bench, .ref ht_acts, .ref ht_drawers, .ref ht_told, .ref ht_pagesOfTrial, .ref ht_kept, .int vt_spoken, .long vt_nowSeed])), (ht_bench, .inr (1, [.ref ht_bench_drops, .ref ht_bench_from, .ref ht_bench_to, .ref ht_bench_tires, .ref ht_bench_copies, .ref ht_bench_pages, .int vt_bench_size])), (ht_bench_drops, .inl (cI, 4, .inl vt_bench_drops)), (ht_bench_from, .inl (cI, 4, .inl vt_bench_from)), (ht_bench_to, .inl (cI, 4, .inl vt_bench_to)), (ht_bench_tires, .inl (cI, 4, .inl vt_bench_tires)), (ht_bench_copies, .inl (cI, 4, .inl vt_bench_copies)), (ht_bench_pages, .inl (cI, 4, .inl x2)), (ht_told, .inl (cI, 4, .inl vt_told))]) [0, 2, 3, 4, 5, 6, 7, 8, 1] rfl) (hD.sub (ws' := [(ht, .inr (4, [.ref ht_text, .ref ht_bench, .ref ht_acts, .ref ht_drawers, .ref ht_told, .ref ht_pagesOfTrial, .ref ht_kept, .int vt_spoken, .long vt_nowSeed])), (ht_bench, .inr (1, [.ref ht_bench_drops, .ref ht_bench_from, .ref ht_bench_to, .ref ht_bench_tires, .ref ht_bench_copies, .ref ht_bench_pages, .int vt_bench_size])), (ht_bench_drops, .inl (cI, 4, .inl vt_bench_drops)), (ht_bench_from, .inl (cI, 4, .inl vt_bench_from)), (ht_bench_to, .inl (cI, 4, .inl vt_bench_to)), (ht_bench_tires, .inl (cI, 4, .inl vt_bench_tires)), (ht_bench_copies, .inl (cI, 4, .inl vt_bench_copies)), (ht_bench_pages, .inl (cI, 4, .inl x2)), (ht_told, .inl (cI, 4, .inl vt_told))]) [0, 2, 3, 4, 5, 6, 7, 8, 1] (by decide) rfl) hS (lv_sub hl [0, 1, 2] rfl) hf
          · replace hf := dg_f c7 hf
            refine lv_iconst (v := 0) hx hb dX5_isAsTold_49 (by decide) ?_
            have he := Option.some.inj hf
            have hP9 := (hP.sub (ws' := [(ht, .inr (4, [.ref ht_text, .ref ht_bench, .ref ht_acts, .ref ht_drawers, .ref ht_told, .ref ht_pagesOfTrial, .ref ht_kept, .int vt_spoken, .long vt_nowSeed])), (ht_bench, .inr (1, [.ref ht_bench_drops, .ref ht_bench_from, .ref ht_bench_to, .ref ht_bench_tires, .ref ht_bench_copies, .ref ht_bench_pages, .int vt_bench_size])), (ht_bench_drops, .inl (cI, 4, .inl vt_bench_drops)), (ht_bench_from, .inl (cI, 4, .inl vt_bench_from)), (ht_bench_to, .inl (cI, 4, .inl vt_bench_to)), (ht_bench_tires, .inl (cI, 4, .inl vt_bench_tires)), (ht_bench_copies, .inl (cI, 4, .inl vt_bench_copies)), (ht_bench_pages, .inl (cI, 4, .inl x2)), (ht_told, .inl (cI, 4, .inl vt_told))]) [0, 2, 3, 4, 5, 6, 7, 8, 1] rfl)
            have hD9 := (hD.sub (ws' := [(ht, .inr (4, [.ref ht_text, .ref ht_bench, .ref ht_acts, .ref ht_drawers, .ref ht_told, .ref ht_pagesOfTrial, .ref ht_kept, .int vt_spoken, .long vt_nowSeed])), (ht_bench, .inr (1, [.ref ht_bench_drops, .ref ht_bench_from, .ref ht_bench_to, .ref ht_bench_tires, .ref ht_bench_copies, .ref ht_bench_pages, .int vt_bench_size])), (ht_bench_drops, .inl (cI, 4, .inl vt_bench_drops)), (ht_bench_from, .inl (cI, 4, .inl vt_bench_from)), (ht_bench_to, .inl (cI, 4, .inl vt_bench_to)), (ht_bench_tires, .inl (cI, 4, .inl vt_bench_tires)), (ht_bench_copies, .inl (cI, 4, .inl vt_bench_copies)), (ht_bench_pages, .inl (cI, 4, .inl x2)), (ht_told, .inl (cI, 4, .inl vt_told))]) [0, 2, 3, 4, 5, 6, 7, 8, 1] (by decide) rfl)
            exact W.zret (v := (0:Int32)) (ty := .boolean) hx hb hr (by decide) (fun t eth hW => ⟨⟨(0:Int32), x2, rfl, ⟨(congrArg Prod.fst he).symm, (congrArg Prod.snd he).symm⟩, by rw [eth]; exact hP9, va_K.moved hW.alike hK, hD9⟩, hS.F eth⟩) hS.2.2 dX5_isAsTold_50
  exact lp2 N (0:Int32) vt_bench_pages _ _ _ hP hD hS hl hf
theorem hd_X5_fits : yX5_fits.cls = RX5 ∧ yX5_fits.cls ≠ "java/lang/invoke/MethodHandle" ∧ yX5_fits.cls ≠ "java/lang/invoke/VarHandle" ∧ (parseMethodDescriptor yX5_fits.desc).map (fun d => d.parameters.length) = some 1 := by decide +kernel
abbrev rm_X5_fits : Room := { frames := 5, cells := 0, slots := 0, locals := 118 }
abbrev q_X5_fits (dC : Nat → ClassId) (dI : Nat → Nat → Nat) (cI cJ cZ : ClassId) (ht ht_text ht_bench ht_acts ht_drawers ht_told ht_pagesOfTrial ht_kept ht_bench_drops ht_bench_from ht_bench_to ht_bench_tires ht_bench_copies ht_bench_pages : Nat) (vt_spoken : Int32) (vt_nowSeed : Int64) (vt_bench_size : Int32) (vt_bench_drops : Nat → Int32) (vt_bench_from : Nat → Int32) (vt_bench_to : Nat → Int32) (vt_bench_tires : Nat → Int32) (vt_bench_copies : Nat → Int32) (vt_told : Nat → Int32) (R : Int32 × (Nat → Int32)) (A : Nat → Prop) : Array Value → State → Outcome → State → Prop := va_Qi (fun (r : Int32) (u : (Nat → Int32)) => R.1 = r ∧ R.2 = u) (fun (u : (Nat → Int32)) (t : State) => va_P (dC, dI) vwCl [(ht, .inr (4, [.ref ht_text, .ref ht_bench, .ref ht_acts, .ref ht_drawers, .ref ht_told, .ref ht_pagesOfTrial, .ref ht_kept, .int vt_spoken, .long vt_nowSeed])), (ht_bench, .inr (1, [.ref ht_bench_drops, .ref ht_bench_from, .ref ht_bench_to, .ref ht_bench_tires, .ref ht_bench_copies, .ref ht_bench_pages, .int vt_bench_size])), (ht_bench_drops, .inl (cI, 4, .inl vt_bench_drops)), (ht_bench_from, .inl (cI, 4, .inl vt_bench_from)), (ht_bench_to, .inl (cI, 4, .inl vt_bench_to)), (ht_bench_tires, .inl (cI, 4, .inl vt_bench_tires)), (ht_bench_copies, .inl (cI, 4, .inl vt_bench_copies)), (ht_bench_pages, .inl (cI, 4, .inl u)), (ht_told, .inl (cI, 4, .inl vt_told))] t.heap ∧ va_K (dC, dI) vwCl [(cI, .int), (cJ, .long), (cZ, .boolean)] t ∧ va_D A [(ht, .inr (4, [.ref ht_text, .ref ht_bench, .ref ht_acts, .ref ht_drawers, .ref ht_told, .ref ht_pagesOfTrial, .ref ht_kept, .int vt_spoken, .long vt_nowSeed])), (ht_bench, .inr (1, [.ref ht_bench_drops, .ref ht_bench_from, .ref ht_bench_to, .ref ht_bench_tires, .ref ht_bench_copies, .ref ht_bench_pages, .int vt_bench_size])), (ht_bench_drops, .inl (cI, 4, .inl vt_bench_drops)), (ht_bench_from, .inl (cI, 4, .inl vt_bench_from)), (ht_bench_to, .inl (cI, 4, .inl vt_bench_to)), (ht_bench_tires, .inl (cI, 4, .inl vt_bench_tires)), (ht_bench_copies, .inl (cI, 4, .inl vt_bench_copies)), (ht_bench_pages, .inl (cI, 4, .inl u)), (ht_told, .inl (cI, 4, .inl vt_told))]) A
set_option maxHeartbeats 4000000 in
set_option maxRecDepth 100000 in
theorem k_X5_fits (l : Launch) (dC : Nat → ClassId) (dI : Nat → Nat → Nat) (cI cJ cZ : ClassId) (sz : Nat) (ht ht_text ht_bench ht_acts ht_drawers ht_told ht_pagesOfTrial ht_kept ht_bench_drops ht_bench_from ht_bench_to ht_bench_tires ht_bench_copies ht_bench_pages : Nat) (a1 : Int32) (vt_spoken : Int32) (vt_nowSeed : Int64) (vt_bench_size : Int32) (vt_bench_drops : Nat → Int32) (vt_bench_from : Nat → Int32) (vt_bench_to : Nat → Int32) (vt_bench_tires : Nat → Int32) (vt_bench_copies : Nat → Int32) (vt_bench_pages : Nat → Int32) (vt_told : Nat → Int32) (N : Nat) (R : Int32 × (Nat → Int32)) (hf : f_X5_fits N a1 vt_bench_size vt_bench_drops vt_bench_from vt_bench_to vt_bench_tires vt_bench_copies vt_bench_pages vt_told = some R) : Met l yX5_fits wsX5_fits (rm_X5_fits) (va_Pc [.ref ht, .int a1] (fun U => U.heap.size = sz ∧ va_P (dC, dI) vwCl [(ht, .inr (4, [.ref ht_text, .ref ht_bench, .ref ht_acts, .ref ht_drawers, .ref ht_told, .ref ht_pagesOfTrial, .ref ht_kept, .int vt_spoken, .long vt_nowSeed])), (ht_bench, .inr (1, [.ref ht_bench_drops, .ref ht_bench_from, .ref ht_bench_to, .ref ht_bench_tires, .ref ht_bench_copies, .ref ht_bench_pages, .int vt_bench_size])), (ht_bench_drops, .inl (cI, 4, .inl vt_bench_drops)), (ht_bench_from, .inl (cI, 4, .inl vt_bench_from)), (ht_bench_to, .inl (cI, 4, .inl vt_bench_to)), (ht_bench_tires, .inl (cI, 4, .inl vt_bench_tires)), (ht_bench_copies, .inl (cI, 4, .inl vt_bench_copies)), (ht_bench_pages, .inl (cI, 4, .inl vt_bench_pages)), (ht_told, .inl (cI, 4, .inl vt_told))] U.heap ∧ va_K (dC, dI) vwCl [(cI, .int), (cJ, .long), (cZ, .boolean)] U ∧ va_D (fun _ => True) [(ht, .inr (4, [.ref ht_text, .ref ht_bench, .ref ht_acts, .ref ht_drawers, .ref ht_told, .ref ht_pagesOfTrial, .ref ht_kept, .int vt_spoken, .long vt_nowSeed])), (ht_bench, .inr (1, [.ref ht_bench_drops, .ref ht_bench_from, .ref ht_bench_to, .ref ht_bench_tires, .ref ht_bench_copies, .ref ht_bench_pages, .int vt_bench_size])), (ht_bench_drops, .inl (cI, 4, .inl vt_bench_drops)), (ht_bench_from, .inl (cI, 4, .inl vt_bench_from)), (ht_bench_to, .inl (cI, 4, .inl vt_bench_to)), (ht_bench_tires, .inl (cI, 4, .inl vt_bench_tires)), (ht_bench_copies, .inl (cI, 4, .inl vt_bench_copies)), (ht_bench_pages, .inl (cI, 4, .inl vt_bench_pages)), (ht_told, .inl (cI, 4, .inl vt_told))])) (q_X5_fits dC dI cI cJ cZ ht ht_text ht_bench ht_acts ht_drawers ht_told ht_pagesOfTrial ht_kept ht_bench_drops ht_bench_from ht_bench_to ht_bench_tires ht_bench_copies ht_bench_pages vt_spoken vt_nowSeed vt_bench_size vt_bench_drops vt_bench_from vt_bench_to vt_bench_tires vt_bench_copies vt_told R (va_A [(ht, .inr (4, [.ref ht_text, .ref ht_bench, .ref ht_acts, .ref ht_drawers, .ref ht_told, .ref ht_pagesOfTrial, .ref ht_kept, .int vt_spoken, .long vt_nowSeed])), (ht_bench, .inr (1, [.ref ht_bench_drops, .ref ht_bench_from, .ref ht_bench_to, .ref ht_bench_tires, .ref ht_bench_copies, .ref ht_bench_pages, .int vt_bench_size])), (ht_bench_drops, .inl (cI, 4, .inl vt_bench_drops)), (ht_bench_from, .inl (cI, 4, .inl vt_bench_from)), (ht_bench_to, .inl (cI, 4, .inl vt_bench_to)), (ht_bench_tires, .inl (cI, 4, .inl vt_bench_tires)), (ht_bench_copies, .inl (cI, 4, .inl vt_bench_copies)), (ht_bench_pages, .inl (cI, 4, .inl vt_bench_pages)), (ht_told, .inl (cI, 4, .inl vt_told))] sz)) 0 0 (va_A [(ht, .inr (4, [.ref ht_text, .ref ht_bench, .ref ht_acts, .ref ht_drawers, .ref ht_told, .ref ht_pagesOfTrial, .ref ht_kept, .int vt_spoken, .long vt_nowSeed])), (ht_bench, .inr (1, [.ref ht_bench_drops, .ref ht_bench_from, .ref ht_bench_to, .ref ht_bench_tires, .ref ht_bench_copies, .ref ht_bench_pages, .int vt_bench_size])), (ht_bench_drops, .inl (cI, 4, .inl vt_bench_drops)), (ht_bench_from, .inl (cI, 4, .inl vt_bench_from)), (ht_bench_to, .inl (cI, 4, .inl vt_bench_to)), (ht_bench_tires, .inl (cI, 4, .inl vt_bench_tires)), (ht_bench_copies, .inl (cI, 4, .inl vt_bench_copies)), (ht_bench_pages, .inl (cI, 4, .inl vt_bench_pages)), (ht_told, .inl (cI, 4, .inl vt_told))] sz) := by
  refine Met.ofW (cc := cX5_fits) (maxL := 5) (ret := (some .int)) (by decide) rfl ?_
  intro p e s m args below meth c s₁ B hml hv
  obtain ⟨rfl, hsz, hP, hK, hD0⟩ := hv
  have hx := B.exec
  have hb := B.bytes
  have hr := B.returns
  have hts := atoms_spec (ws := wsX5_fits) B.pre
  have hown : s.vm.findClass RX5 = some m.cls := findClass_of_methodNamed B.named
  have hlocks := B.notSynchronized
  clear B
  subst hsz
  have hD := hD0.self (sz := s.heap.size)
  clear hD0
  generalize hAe : va_A [(ht, .inr (4, [.ref ht_text, .ref ht_bench, .ref ht_acts, .ref ht_drawers, .ref ht_told, .ref ht_pagesOfTrial, .ref ht_kept, .int vt_spoken, .long vt_nowSeed])), (ht_bench, .inr (1, [.ref ht_bench_drops, .ref ht_bench_from, .ref ht_bench_to, .ref ht_bench_tires, .ref ht_bench_copies, .ref ht_bench_pages, .int vt_bench_size])), (ht_bench_drops, .inl (cI, 4, .inl vt_bench_drops)), (ht_bench_from, .inl (cI, 4, .inl vt_bench_from)), (ht_bench_to, .inl (cI, 4, .inl vt_bench_to)), (ht_bench_tires, .inl (cI, 4, .inl vt_bench_tires)), (ht_bench_copies, .inl (cI, 4, .inl vt_bench_copies)), (ht_bench_pages, .inl (cI, 4, .inl vt_bench_pages)), (ht_told, .inl (cI, 4, .inl vt_told))] s.heap.size = A at hD ⊢
  have hA : ∀ q : Nat, s.heap.size ≤ q → A q := fun q h => by rw [← hAe]; exact Or.inr h
  clear hAe
  have hS : va_S A s.heap s.heap [] := va_S.rf
  have hl := lv_entry ([.ref ht, .int a1]) (n := 5) (Nat.le_of_ble_eq_true rfl)
  rw [lg_entry_eq]
  generalize (lg_sl ([.ref ht, .int a1]) ++ List.replicate (5 - (lg_sl ([.ref ht, .int a1])).length) Slot.unset).toArray = ls at hl ⊢
  have hl : lv_has ls 5 [(0, .ref ht), (1, .int a1)] := hl
  unfold f_X5_fits at hf
  refine lv_iload_n hx hb dX5_fits_0 rfl (lv_at hl 1 rfl) ?_
  refine lv_iconst (v := 0) hx hb dX5_fits_1 (by decide) ?_
  obtain ⟨x1, hx1, hf⟩ := dg_bind hf
  have hPc : va_P (dC, dI) vwCl [] s.heap := hP.sub [] rfl
  have hDc : va_D A [] := hD.sub [] (by decide) rfl
  have hFc := va_free (wc := []) hD hS hA [] rfl
  refine va_calli (va_runS (As := [.int a1, .int (0:Int32)]) (rest := []) ⟨hx, hb, hml, hown, hts⟩ (k_X5_isLength l dC dI cI cJ cZ s.heap.size a1 (0:Int32) N x1 hx1) (va_cwS 2 hts gX5_fits_X5_isLength rfl rfl rfl hd_X5_isLength ⟨Nat.le_of_ble_eq_true rfl, Nat.le_of_ble_eq_true rfl⟩) ⟨blind_pc, pre_pc hPc hK hDc⟩ rfl rfl hl.1 rfl (lv_room (Nat.le_of_ble_eq_true rfl)) dX5_fits_2 ⟨Nat.zero_le _, Nat.zero_le _⟩) hS (fun q _ h => hFc q h) hFc (fun r u t H1 locs eth hvm hw hB hz1 hk1 hS => ?_)
  obtain ⟨hP1, hK1, hD1⟩ := hB
  rw [eth] at hP1
  subst hw
  obtain ⟨hP, hD⟩ := va_join (wr := [(ht, .inr (4, [.ref ht_text, .ref ht_bench, .ref ht_acts, .ref ht_drawers, .ref ht_told, .ref ht_pagesOfTrial, .ref ht_kept, .int vt_spoken, .long vt_nowSeed])), (ht_bench, .inr (1, [.ref ht_bench_drops, .ref ht_bench_from, .ref ht_bench_to, .ref ht_bench_tires, .ref ht_bench_copies, .ref ht_bench_pages, .int vt_bench_size])), (ht_bench_drops, .inl (cI, 4, .inl vt_bench_drops)), (ht_bench_from, .inl (cI, 4, .inl vt_bench_from)), (ht_bench_to, .inl (cI, 4, .inl vt_bench_to)), (ht_bench_tires, .inl (cI, 4, .inl vt_bench_tires)), (ht_bench_copies, .inl (cI, 4, .inl vt_bench_copies)), (ht_bench_pages, .inl (cI, 4, .inl vt_bench_pages)), (ht_told, .inl (cI, 4, .inl vt_told))]) (w1 := []) hP hD [] [0, 1, 2, 3, 4, 5, 6, 7, 8] rfl rfl (by decide) (by decide) hk1 hFc hP1 hD1
  clear hP1 hK1 hD1 hPc hDc hFc hk1 hz1 hvm eth
  generalize H1 = H at hP hS ⊢
  have hP : va_P (dC, dI) vwCl [(ht, .inr (4, [.ref ht_text, .ref ht_bench, .ref ht_acts, .ref ht_drawers, .ref ht_told, .ref ht_pagesOfTrial, .ref ht_kept, .int vt_spoken, .long vt_nowSeed])), (ht_bench, .inr (1, [.ref ht_bench_drops, .ref ht_bench_from, .ref ht_bench_to, .ref ht_bench_tires, .ref ht_bench_copies, .ref ht_bench_pages, .int vt_bench_size])), (ht_bench_drops, .inl (cI, 4, .inl vt_bench_drops)), (ht_bench_from, .inl (cI, 4, .inl vt_bench_from)), (ht_bench_to, .inl (cI, 4, .inl vt_bench_to)), (ht_bench_tires, .inl (cI, 4, .inl vt_bench_tires)), (ht_bench_copies, .inl (cI, 4, .inl vt_bench_copies)), (ht_bench_pages, .inl (cI, 4, .inl vt_bench_pages)), (ht_told, .inl (cI, 4, .inl vt_told))] H := hP
  have hD : va_D A [(ht, .inr (4, [.ref ht_text, .ref ht_bench, .ref ht_acts, .ref ht_drawers, .ref ht_told, .ref ht_pagesOfTrial, .ref ht_kept, .int vt_spoken, .long vt_nowSeed])), (ht_bench, .inr (1, [.ref ht_bench_drops, .ref ht_bench_from, .ref ht_bench_to, .ref ht_bench_tires, .ref ht_bench_copies, .ref ht_bench_pages, .int vt_bench_size])), (ht_bench_drops, .inl (cI, 4, .inl vt_bench_drops)), (ht_bench_from, .inl (cI, 4, .inl vt_bench_from)), (ht_bench_to, .inl (cI, 4, .inl vt_bench_to)), (ht_bench_tires, .inl (cI, 4, .inl vt_bench_tires)), (ht_bench_copies, .inl (cI, 4, .inl vt_bench_copies)), (ht_bench_pages, .inl (cI, 4, .inl vt_bench_pages)), (ht_told, .inl (cI, 4, .inl vt_told))] := hD
  refine lv_if_ne (tgt := 11) hx hb dX5_fits_5 (by decide) (fun c2 => ?_) (fun c2 => ?_)
  · replace hf := dg_f c2 hf
    refine lv_iconst (v := 0) hx hb dX5_fits_11 (by decide) ?_
    refine lv_istore_n (lv' := [(2, .int (0:Int32)), (0, .ref ht), (1, .int a1)]) hx hb dX5_fits_12 rfl hl (by decide) rfl (fun ls hl => ?_)
    refine lv_iload_n hx hb dX5_fits_13 rfl (lv_at hl 2 rfl) ?_
    obtain ⟨x3, hx3, hf⟩ := dg_bind hf
    have hPc : va_P (dC, dI) vwCl [] H := hP.sub [] rfl
    have hDc : va_D A [] := hD.sub [] (by decide) rfl
    have hFc := va_free (wc := []) hD hS hA [] rfl
    refine va_calli (va_runS (As := [.int a1]) (rest := []) ⟨hx, hb, hml, hown, hts⟩ (k_X4_endOf l dC dI cI cJ cZ H.size a1 N x3 hx3) (va_cwS 1 hts gX5_fits_X4_endOf rfl rfl rfl hd_X4_endOf ⟨Nat.le_of_ble_eq_true rfl, Nat.le_of_ble_eq_true rfl⟩) ⟨blind_pc, pre_pc hPc hK hDc⟩ rfl rfl hl.1 rfl (lv_room (Nat.le_of_ble_eq_true rfl)) dX5_fits_14 ⟨Nat.zero_le _, Nat.zero_le _⟩) hS (fun q _ h => hFc q h) hFc (fun r u t H1 locs eth hvm hw hB hz1 hk1 hS => ?_)
    obtain ⟨hP1, hK1, hD1⟩ := hB
    rw [eth] at hP1
    subst hw
    obtain ⟨hP, hD⟩ := va_join (wr := [(ht, .inr (4, [.ref ht_text, .ref ht_bench, .ref ht_acts, .ref ht_drawers, .ref ht_told, .ref ht_pagesOfTrial, .ref ht_kept, .int vt_spoken, .long vt_nowSeed])), (ht_bench, .inr (1, [.ref ht_bench_drops, .ref ht_bench_from, .ref ht_bench_to, .ref ht_bench_tires, .ref ht_bench_copies, .ref ht_bench_pages, .int vt_bench_size])), (ht_bench_drops, .inl (cI, 4, .inl vt_bench_drops)), (ht_bench_from, .inl (cI, 4, .inl vt_bench_from)), (ht_bench_to, .inl (cI, 4, .inl vt_bench_to)), (ht_bench_tires, .inl (cI, 4, .inl vt_bench_tires)), (ht_bench_copies, .inl (cI, 4, .inl vt_bench_copies)), (ht_bench_pages, .inl (cI, 4, .inl vt_bench_pages)), (ht_told, .inl (cI, 4, .inl vt_told))]) (w1 := []) hP hD [] [0, 1, 2, 3, 4, 5, 6, 7, 8] rfl rfl (by decide) (by decide) hk1 hFc hP1 hD1
    clear hP1 hK1 hD1 hPc hDc hFc hk1 hz1 hvm eth
    generalize H1 = H at hP hS ⊢
    have hP : va_P (dC, dI) vwCl [(ht, .inr (4, [.ref ht_text, .ref ht_bench, .ref ht_acts, .ref ht_drawers, .ref ht_told, .ref ht_pagesOfTrial, .ref ht_kept, .int vt_spoken, .long vt_nowSeed])), (ht_bench, .inr (1, [.ref ht_bench_drops, .ref ht_bench_from, .ref ht_bench_to, .ref ht_bench_tires, .ref ht_bench_copies, .ref ht_bench_pages, .int vt_bench_size])), (ht_bench_drops, .inl (cI, 4, .inl vt_bench_drops)), (ht_bench_from, .inl (cI, 4, .inl vt_bench_from)), (ht_bench_to, .inl (cI, 4, .inl vt_bench_to)), (ht_bench_tires, .inl (cI, 4, .inl vt_bench_tires)), (ht_bench_copies, .inl (cI, 4, .inl vt_bench_copies)), (ht_bench_pages, .inl (cI, 4, .inl vt_bench_pages)), (ht_told, .inl (cI, 4, .inl vt_told))] H := hP
    have hD : va_D A [(ht, .inr (4, [.ref ht_text, .ref ht_bench, .ref ht_acts, .ref ht_drawers, .ref ht_told, .ref ht_pagesOfTrial, .ref ht_kept, .int vt_spoken, .long vt_nowSeed])), (ht_bench, .inr (1, [.ref ht_bench_drops, .ref ht_bench_from, .ref ht_bench_to, .ref ht_bench_tires, .ref ht_bench_copies, .ref ht_bench_pages, .int vt_bench_size])), (ht_bench_drops, .inl (cI, 4, .inl vt_bench_drops)), (ht_bench_from, .inl (cI, 4, .inl vt_bench_from)), (ht_bench_to, .inl (cI, 4, .inl vt_bench_to)), (ht_bench_tires, .inl (cI, 4, .inl vt_bench_tires)), (ht_bench_copies, .inl (cI, 4, .inl vt_bench_copies)), (ht_bench_pages, .inl (cI, 4, .inl vt_bench_pages)), (ht_told, .inl (cI, 4, .inl vt_told))] := hD
    refine lv_istore_n (lv' := [(3, .int x3), (2, .int (0:Int32)), (0, .ref ht), (1, .int a1)]) hx hb dX5_fits_17 rfl hl (by decide) rfl (fun ls hl => ?_)
    refine lv_iload_n hx hb dX5_fits_18 rfl (lv_at hl 3 rfl) ?_
    obtain ⟨x4, hx4, hf⟩ := dg_bind hf
    have hPc : va_P (dC, dI) vwCl [] H := hP.sub [] rfl
    have hDc : va_D A [] := hD.sub [] (by decide) rfl
    have hFc := va_free (wc := []) hD hS hA [] rfl
    refine va_calli (va_runS (As := [.int a1]) (rest := []) ⟨hx, hb, hml, hown, hts⟩ (k_X4_firstOf l dC dI cI cJ cZ H.size a1 N x4 hx4) (va_cwS 1 hts gX5_fits_X4_firstOf rfl rfl rfl hd_X4_firstOf ⟨Nat.le_of_ble_eq_true rfl, Nat.le_of_ble_eq_true rfl⟩) ⟨blind_pc, pre_pc hPc hK hDc⟩ rfl rfl hl.1 rfl (lv_room (Nat.le_of_ble_eq_true rfl)) dX5_fits_19 ⟨Nat.zero_le _, Nat.zero_le _⟩) hS (fun q _ h => hFc q h) hFc (fun r u t H1 locs eth hvm hw hB hz1 hk1 hS => ?_)
    obtain ⟨hP1, hK1, hD1⟩ := hB
    rw [eth] at hP1
    subst hw
    obtain ⟨hP, hD⟩ := va_join (wr := [(ht, .inr (4, [.ref ht_text, .ref ht_bench, .ref ht_acts, .ref ht_drawers, .ref ht_told, .ref ht_pagesOfTrial, .ref ht_kept, .int vt_spoken, .long vt_nowSeed])), (ht_bench, .inr (1, [.ref ht_bench_drops, .ref ht_bench_from, .ref ht_bench_to, .ref ht_bench_tires, .ref ht_bench_copies, .ref ht_bench_pages, .int vt_bench_size])), (ht_bench_drops, .inl (cI, 4, .inl vt_bench_drops)), (ht_bench_from, .inl (cI, 4, .inl vt_bench_from)), (ht_bench_to, .inl (cI, 4, .inl vt_bench_to)), (ht_bench_tires, .inl (cI, 4, .inl vt_bench_tires)), (ht_bench_copies, .inl (cI, 4, .inl vt_bench_copies)), (ht_bench_pages, .inl (cI, 4, .inl vt_bench_pages)), (ht_told, .inl (cI, 4, .inl vt_told))]) (w1 := []) hP hD [] [0, 1, 2, 3, 4, 5, 6, 7, 8] rfl rfl (by decide) (by decide) hk1 hFc hP1 hD1
    clear hP1 hK1 hD1 hPc hDc hFc hk1 hz1 hvm eth
    generalize H1 = H at hP hS ⊢
    have hP : va_P (dC, dI) vwCl [(ht, .inr (4, [.ref ht_text, .ref ht_bench, .ref ht_acts, .ref ht_drawers, .ref ht_told, .ref ht_pagesOfTrial, .ref ht_kept, .int vt_spoken, .long vt_nowSeed])), (ht_bench, .inr (1, [.ref ht_bench_drops, .ref ht_bench_from, .ref ht_bench_to, .ref ht_bench_tires, .ref ht_bench_copies, .ref ht_bench_pages, .int vt_bench_size])), (ht_bench_drops, .inl (cI, 4, .inl vt_bench_drops)), (ht_bench_from, .inl (cI, 4, .inl vt_bench_from)), (ht_bench_to, .inl (cI, 4, .inl vt_bench_to)), (ht_bench_tires, .inl (cI, 4, .inl vt_bench_tires)), (ht_bench_copies, .inl (cI, 4, .inl vt_bench_copies)), (ht_bench_pages, .inl (cI, 4, .inl vt_bench_pages)), (ht_told, .inl (cI, 4, .inl vt_told))] H := hP
    have hD : va_D A [(ht, .inr (4, [.ref ht_text, .ref ht_bench, .ref ht_acts, .ref ht_drawers, .ref ht_told, .ref ht_pagesOfTrial, .ref ht_kept, .int vt_spoken, .long vt_nowSeed])), (ht_bench, .inr (1, [.ref ht_bench_drops, .ref ht_bench_from, .ref ht_bench_to, .ref ht_bench_tires, .ref ht_bench_copies, .ref ht_bench_pages, .int vt_bench_size])), (ht_bench_drops, .inl (cI, 4, .inl vt_bench_drops)), (ht_bench_from, .inl (cI, 4, .inl vt_bench_from)), (ht_bench_to, .inl (cI, 4, .inl vt_bench_to)), (ht_bench_tires, .inl (cI, 4, .inl vt_bench_tires)), (ht_bench_copies, .inl (cI, 4, .inl vt_bench_copies)), (ht_bench_pages, .inl (cI, 4, .inl vt_bench_pages)), (ht_told, .inl (cI, 4, .inl vt_told))] := hD
    refine lv_istore (lv' := [(4, .int x4), (3, .int x3), (2, .int (0:Int32)), (0, .ref ht), (1, .int a1)]) hx hb dX5_fits_22 hl (by decide) rfl (fun ls hl => ?_)
    have ex24 : ∀ (z2_24 : Int32) (z4_24 : Int32) (zvt_bench_pages_24 : (Nat → Int32)) (H : Heap) (locs : List Loc) (ls : Array Slot), va_P (dC, dI) vwCl [(ht, .inr (4, [.ref ht_text, .ref ht_bench, .ref ht_acts, .ref ht_drawers, .ref ht_told, .ref ht_pagesOfTrial, .ref ht_kept, .int vt_spoken, .long vt_nowSeed])), (ht_bench, .inr (1, [.ref ht_bench_drops, .ref ht_bench_from, .ref ht_bench_to, .ref ht_bench_tires, .ref ht_bench_copies, .ref ht_bench_pages, .int vt_bench_size])), (ht_bench_drops, .inl (cI, 4, .inl vt_bench_drops)), (ht_bench_from, .inl (cI, 4, .inl vt_bench_from)), (ht_bench_to, .inl (cI, 4, .inl vt_bench_to)), (ht_bench_tires, .inl (cI, 4, .inl vt_bench_tires)), (ht_bench_copies, .inl (cI, 4, .inl vt_bench_copies)), (ht_bench_pages, .inl (cI, 4, .inl zvt_bench_pages_24)), (ht_told, .inl (cI, 4, .inl vt_told))] H → va_D A [(ht, .inr (4, [.ref ht_text, .ref ht_bench, .ref ht_acts, .ref ht_drawers, .ref ht_told, .ref ht_pagesOfTrial, .ref ht_kept, .int vt_spoken, .long vt_nowSeed])), (ht_bench, .inr (1, [.ref ht_bench_drops, .ref ht_bench_from, .ref ht_bench_to, .ref ht_bench_tires, .ref ht_bench_copies, .ref ht_bench_pages, .int vt_bench_size])), (ht_bench_drops, .inl (cI, 4, .inl vt_bench_drops)), (ht_bench_from, .inl (cI, 4, .inl vt_bench_from)), (ht_bench_to, .inl (cI, 4, .inl vt_bench_to)), (ht_bench_tires, .inl (cI, 4, .inl vt_bench_tires)), (ht_bench_copies, .inl (cI, 4, .inl vt_bench_copies)), (ht_bench_pages, .inl (cI, 4, .inl zvt_bench_pages_24)), (ht_told, .inl (cI, 4, .inl vt_told))] → va_S A s.heap H locs → lv_has ls 5 [(4, .int z4_24), (3, .int x3), (2, .int z2_24), (0, .ref ht), (1, .int a1)] → (some (z2_24, zvt_bench_pages_24)) = some R → W p l e (rm_X5_fits) s m ([.ref ht, .int a1] : List Value).toArray below meth c H locs 0 0 (MQ below (q_X5_fits dC dI cI cJ cZ ht ht_text ht_bench ht_acts ht_drawers ht_told ht_pagesOfTrial ht_kept ht_bench_drops ht_bench_from ht_bench_to ht_bench_tires ht_bench_copies ht_bench_pages vt_spoken vt_nowSeed vt_bench_size vt_bench_drops vt_bench_from vt_bench_to vt_bench_tires vt_bench_copies vt_told R A) ([.ref ht, .int a1] : List Value).toArray s 0 0 A) (F0 m 48 ls []) := by
      intro z2_24 z4_24 zvt_bench_pages_24 H locs ls hP hD hS hl hf
      refine lv_iload_n hx hb dX5_fits_48 rfl (lv_at hl 2 rfl) ?_
      have he := Option.some.inj hf
      have hP9 := hP
      have hD9 := hD
      exact W.iret (v := z2_24) hx hb hr (fun t eth hW => ⟨⟨z2_24, zvt_bench_pages_24, rfl, ⟨(congrArg Prod.fst he).symm, (congrArg Prod.snd he).symm⟩, by rw [eth]; exact hP9, va_K.moved hW.alike hK, hD9⟩, hS.F eth⟩) hS.2.2 dX5_fits_49
    have lp24 : ∀ (n24 : Nat) (y2_24 : Int32) (y4_24 : Int32) (yvt_bench_pages_24 : (Nat → Int32)) (H : Heap) (locs : List Loc) (ls : Array Slot), va_P (dC, dI) vwCl [(ht, .inr (4, [.ref ht_text, .ref ht_bench, .ref ht_acts, .ref ht_drawers, .ref ht_told, .ref ht_pagesOfTrial, .ref ht_kept, .int vt_spoken, .long vt_nowSeed])), (ht_bench, .inr (1, [.ref ht_bench_drops, .ref ht_bench_from, .ref ht_bench_to, .ref ht_bench_tires, .ref ht_bench_copies, .ref ht_bench_pages, .int vt_bench_size])), (ht_bench_drops, .inl (cI, 4, .inl vt_bench_drops)), (ht_bench_from, .inl (cI, 4, .inl vt_bench_from)), (ht_bench_to, .inl (cI, 4, .inl vt_bench_to)), (ht_bench_tires, .inl (cI, 4, .inl vt_bench_tires)), (ht_bench_copies, .inl (cI, 4, .inl vt_bench_copies)), (ht_bench_pages, .inl (cI, 4, .inl yvt_bench_pages_24)), (ht_told, .inl (cI, 4, .inl vt_told))] H → va_D A [(ht, .inr (4, [.ref ht_text, .ref ht_bench, .ref ht_acts, .ref ht_drawers, .ref ht_told, .ref ht_pagesOfTrial, .ref ht_kept, .int vt_spoken, .long vt_nowSeed])), (ht_bench, .inr (1, [.ref ht_bench_drops, .ref ht_bench_from, .ref ht_bench_to, .ref ht_bench_tires, .ref ht_bench_copies, .ref ht_bench_pages, .int vt_bench_size])), (ht_bench_drops, .inl (cI, 4, .inl vt_bench_drops)), (ht_bench_from, .inl (cI, 4, .inl vt_bench_from)), (ht_bench_to, .inl (cI, 4, .inl vt_bench_to)), (ht_bench_tires, .inl (cI, 4, .inl vt_bench_tires)), (ht_bench_copies, .inl (cI, 4, .inl vt_bench_copies)), (ht_bench_pages, .inl (cI, 4, .inl yvt_bench_pages_24)), (ht_told, .inl (cI, 4, .inl vt_told))] → va_S A s.heap H locs → lv_has ls 5 [(4, .int y4_24), (3, .int x3), (2, .int y2_24), (0, .ref ht), (1, .int a1)] → f_X5_fits_24 N vt_bench_size vt_bench_drops vt_bench_from vt_bench_to vt_bench_tires vt_bench_copies vt_told x3 (fun z2_24 z4_24 zvt_bench_pages_24 => some (z2_24, zvt_bench_pages_24)) n24 y2_24 y4_24 yvt_bench_pages_24 = some R → W p l e (rm_X5_fits) s m ([.ref ht, .int a1] : List Value).toArray below meth c H locs 0 0 (MQ below (q_X5_fits dC dI cI cJ cZ ht ht_text ht_bench ht_acts ht_drawers ht_told ht_pagesOfTrial ht_kept ht_bench_drops ht_bench_from ht_bench_to ht_bench_tires ht_bench_copies ht_bench_pages vt_spoken vt_nowSeed vt_bench_size vt_bench_drops vt_bench_from vt_bench_to vt_bench_tires vt_bench_copies vt_told R A) ([.ref ht, .int a1] : List Value).toArray s 0 0 A) (F0 m 24 ls []) := by
      intro n24
      induction n24 with
      | zero => intro y2_24 y4_24 yvt_bench_pages_24 H locs ls hP hD hS hl hf; rw [f_X5_fits_24] at hf; cases hf
      | succ n24 ih24 =>
        intro y2_24 y4_24 yvt_bench_pages_24 H locs ls hP hD hS hl hf
        rw [f_X5_fits_24] at hf
        refine lv_iload hx hb dX5_fits_24 (lv_at hl 0 rfl) ?_
        refine lv_iload_n hx hb dX5_fits_26 rfl (lv_at hl 1 rfl) ?_
        refine lv_icmp_ge (tgt := 48) hx hb dX5_fits_27 (by decide) (fun c5 => ?_) (fun c5 => ?_)
        · replace hf := dg_t c5 hf
          exact ex24 y2_24 y4_24 yvt_bench_pages_24 _ _ _ hP hD hS (lv_sub hl [0, 1, 2, 3, 4] rfl) hf
        · replace hf := dg_f c5 hf
          refine lv_aload_n hx hb dX5_fits_30 rfl (lv_at hl 3 rfl) ?_
          refine lv_iload hx hb dX5_fits_31 (lv_at hl 0 rfl) ?_
          obtain ⟨x6, hx6, hf⟩ := dg_bind hf
          have hPc : va_P (dC, dI) vwCl [(ht, .inr (4, [.ref ht_text, .ref ht_bench, .ref ht_acts, .ref ht_drawers, .ref ht_told, .ref ht_pagesOfTrial, .ref ht_kept, .int vt_spoken, .long vt_nowSeed])), (ht_bench, .inr (1, [.ref ht_bench_drops, .ref ht_bench_from, .ref ht_bench_to, .ref ht_bench_tires, .ref ht_bench_copies, .ref ht_bench_pages, .int vt_bench_size])), (ht_bench_drops, .inl (cI, 4, .inl vt_bench_drops)), (ht_bench_from, .inl (cI, 4, .inl vt_bench_from)), (ht_bench_to, .inl (cI, 4, .inl vt_bench_to)), (ht_bench_tires, .inl (cI, 4, .inl vt_bench_tires)), (ht_bench_copies, .inl (cI, 4, .inl vt_bench_copies)), (ht_bench_pages, .inl (cI, 4, .inl yvt_bench_pages_24)), (ht_told, .inl (cI, 4, .inl vt_told))] H := hP.sub [0, 1, 2, 3, 4, 5, 6, 7, 8] rfl
          have hDc : va_D A [(ht, .inr (4, [.ref ht_text, .ref ht_bench, .ref ht_acts, .ref ht_drawers, .ref ht_told, .ref ht_pagesOfTrial, .ref ht_kept, .int vt_spoken, .long vt_nowSeed])), (ht_bench, .inr (1, [.ref ht_bench_drops, .ref ht_bench_from, .ref ht_bench_to, .ref ht_bench_tires, .ref ht_bench_copies, .ref ht_bench_pages, .int vt_bench_size])), (ht_bench_drops, .inl (cI, 4, .inl vt_bench_drops)), (ht_bench_from, .inl (cI, 4, .inl vt_bench_from)), (ht_bench_to, .inl (cI, 4, .inl vt_bench_to)), (ht_bench_tires, .inl (cI, 4, .inl vt_bench_tires)), (ht_bench_copies, .inl (cI, 4, .inl vt_bench_copies)), (ht_bench_pages, .inl (cI, 4, .inl yvt_bench_pages_24)), (ht_told, .inl (cI, 4, .inl vt_told))] := hD.sub [0, 1, 2, 3, 4, 5, 6, 7, 8] (by decide) rfl
          have hFc := va_free (wc := [(ht, .inr (4, [.ref ht_text, .ref ht_bench, .ref ht_acts, .ref ht_drawers, .ref ht_told, .ref ht_pagesOfTrial, .ref ht_kept, .int vt_spoken, .long vt_nowSeed])), (ht_bench, .inr (1, [.ref ht_bench_drops, .ref ht_bench_from, .ref ht_bench_to, .ref ht_bench_tires, .ref ht_bench_copies, .ref ht_bench_pages, .int vt_bench_size])), (ht_bench_drops, .inl (cI, 4, .inl vt_bench_drops)), (ht_bench_from, .inl (cI, 4, .inl vt_bench_from)), (ht_bench_to, .inl (cI, 4, .inl vt_bench_to)), (ht_bench_tires, .inl (cI, 4, .inl vt_bench_tires)), (ht_bench_copies, .inl (cI, 4, .inl vt_bench_copies)), (ht_bench_pages, .inl (cI, 4, .inl yvt_bench_pages_24)), (ht_told, .inl (cI, 4, .inl vt_told))]) hD hS hA [0, 1, 2, 3, 4, 5, 6, 7, 8] rfl
          refine va_calli (va_runV (As := [.int y4_24]) (rest := []) ⟨hx, hb, hml, hown, hts⟩ (k_X5_isAsTold l dC dI cI cJ cZ H.size ht ht_text ht_bench ht_acts ht_drawers ht_told ht_pagesOfTrial ht_kept ht_bench_drops ht_bench_from ht_bench_to ht_bench_tires ht_bench_copies ht_bench_pages y4_24 vt_spoken vt_nowSeed vt_bench_size vt_bench_drops vt_bench_from vt_bench_to vt_bench_tires vt_bench_copies yvt_bench_pages_24 vt_told N x6 hx6) (cwV 1 hts gX5_fits_X5_isAsTold rfl rfl rfl hd_X5_isAsTold ⟨Nat.le_of_ble_eq_true rfl, Nat.le_of_ble_eq_true rfl⟩) ⟨blind_pc, va_recv hK hPc (ci := 4) (q0 := 0) rfl rfl, pre_pc hPc hK hDc⟩ rfl rfl hl.1 rfl (lv_room (Nat.le_of_ble_eq_true rfl)) dX5_fits_33 ⟨Nat.zero_le _, Nat.zero_le _⟩) hS (fun q _ h => hFc q h) hFc (fun r u t H1 locs eth hvm hw hB hz1 hk1 hS => ?_)
          obtain ⟨hP1, hK1, hD1⟩ := hB
          rw [eth] at hP1
          obtain ⟨hw, hw2⟩ := hw
          subst hw; subst hw2
          obtain ⟨hP, hD⟩ := va_join (wr := []) (w1 := [(ht, .inr (4, [.ref ht_text, .ref ht_bench, .ref ht_acts, .ref ht_drawers, .ref ht_told, .ref ht_pagesOfTrial, .ref ht_kept, .int vt_spoken, .long vt_nowSeed])), (ht_bench, .inr (1, [.ref ht_bench_drops, .ref ht_bench_from, .ref ht_bench_to, .ref ht_bench_tires, .ref ht_bench_copies, .ref ht_bench_pages, .int vt_bench_size])), (ht_bench_drops, .inl (cI, 4, .inl vt_bench_drops)), (ht_bench_from, .inl (cI, 4, .inl vt_bench_from)), (ht_bench_to, .inl (cI, 4, .inl vt_bench_to)), (ht_bench_tires, .inl (cI, 4, .inl vt_bench_tires)), (ht_bench_copies, .inl (cI, 4, .inl vt_bench_copies)), (ht_bench_pages, .inl (cI, 4, .inl x6.2)), (ht_told, .inl (cI, 4, .inl vt_told))]) hP hD [0, 1, 2, 3, 4, 5, 6, 7, 8] [] rfl rfl (by decide) (by decide) hk1 hFc hP1 hD1
          clear hP1 hK1 hD1 hPc hDc hFc hk1 hz1 hvm eth
          generalize H1 = H at hP hS ⊢
          have hP : va_P (dC, dI) vwCl [(ht, .inr (4, [.ref ht_text, .ref ht_bench, .ref ht_acts, .ref ht_drawers, .ref ht_told, .ref ht_pagesOfTrial, .ref ht_kept, .int vt_spoken, .long vt_nowSeed])), (ht_bench, .inr (1, [.ref ht_bench_drops, .ref ht_bench_from, .ref ht_bench_to, .ref ht_bench_tires, .ref ht_bench_copies, .ref ht_bench_pages, .int vt_bench_size])), (ht_bench_drops, .inl (cI, 4, .inl vt_bench_drops)), (ht_bench_from, .inl (cI, 4, .inl vt_bench_from)), (ht_bench_to, .inl (cI, 4, .inl vt_bench_to)), (ht_bench_tires, .inl (cI, 4, .inl vt_bench_tires)), (ht_bench_copies, .inl (cI, 4, .inl vt_bench_copies)), (ht_bench_pages, .inl (cI, 4, .inl x6.2)), (ht_told, .inl (cI, 4, .inl vt_told))] H := hP
          have hD : va_D A [(ht, .inr (4, [.ref ht_text, .ref ht_bench, .ref ht_acts, .ref ht_drawers, .ref ht_told, .ref ht_pagesOfTrial, .ref ht_kept, .int vt_spoken, .long vt_nowSeed])), (ht_bench, .inr (1, [.ref ht_bench_drops, .ref ht_bench_from, .ref ht_bench_to, .ref ht_bench_tires, .ref ht_bench_copies, .ref ht_bench_pages, .int vt_bench_size])), (ht_bench_drops, .inl (cI, 4, .inl vt_bench_drops)), (ht_bench_from, .inl (cI, 4, .inl vt_bench_from)), (ht_bench_to, .inl (cI, 4, .inl vt_bench_to)), (ht_bench_tires, .inl (cI, 4, .inl vt_bench_tires)), (ht_bench_copies, .inl (cI, 4, .inl vt_bench_copies)), (ht_bench_pages, .inl (cI, 4, .inl x6.2)), (ht_told, .inl (cI, 4, .inl vt_told))] := hD
          refine lv_if_eq (tgt := 42) hx hb dX5_fits_36 (by decide) (fun c7 => ?_) (fun c7 => ?_)
          · replace hf := dg_t c7 hf
            refine lv_iinc (v := (y4_24 + (1:Int32))) (lv' := [(4, .int (y4_24 + (1:Int32))), (3, .int x3), (2, .int y2_24), (0, .ref ht), (1, .int a1)]) hx hb dX5_fits_42 hl (k := 0) rfl (by first | rfl | decide) (by decide) rfl (fun ls hl => ?_)
            refine lv_goto (tgt := 24) hx hb dX5_fits_45 (by decide) ?_
            exact ih24 y2_24 (y4_24 + (1:Int32)) x6.2 _ _ _ hP hD hS (lv_sub hl [0, 1, 2, 3, 4] rfl) hf
          · replace hf := dg_f c7 hf
            refine lv_iinc (v := (y2_24 + (1:Int32))) (lv' := [(2, .int (y2_24 + (1:Int32))), (4, .int y4_24), (3, .int x3), (0, .ref ht), (1, .int a1)]) hx hb dX5_fits_39 hl (k := 2) rfl (by first | rfl | decide) (by decide) rfl (fun ls hl => ?_)
            refine lv_iinc (v := (y4_24 + (1:Int32))) (lv' := [(4, .int (y4_24 + (1:Int32))), (2, .int (y2_24 + (1:Int32))), (3, .int x3), (0, .ref ht), (1, .int a1)]) hx hb dX5_fits_42 hl (k := 1) rfl (by first | rfl | decide) (by decide) rfl (fun ls hl => ?_)
            refine lv_goto (tgt := 24) hx hb dX5_fits_45 (by decide) ?_
            exact ih24 (y2_24 + (1:Int32)) (y4_24 + (1:Int32)) x6.2 _ _ _ hP hD hS (lv_sub hl [0, 2, 1, 3, 4] rfl) hf
    exact lp24 N (0:Int32) x4 vt_bench_pages _ _ _ hP hD hS hl hf
  · replace hf := dg_t c2 hf
    refine lv_bipush (v := -2) hx hb dX5_fits_8 (by decide) ?_
    have he := Option.some.inj hf
    have hP9 := hP
    have hD9 := hD
    exact W.iret (v := (-2:Int32)) hx hb hr (fun t eth hW => ⟨⟨(-2:Int32), vt_bench_pages, rfl, ⟨(congrArg Prod.fst he).symm, (congrArg Prod.snd he).symm⟩, by rw [eth]; exact hP9, va_K.moved hW.alike hK, hD9⟩, hS.F eth⟩) hS.2.2 dX5_fits_10
theorem hd_X5_least : yX5_least.cls = RX5 ∧ yX5_least.cls ≠ "java/lang/invoke/MethodHandle" ∧ yX5_least.cls ≠ "java/lang/invoke/VarHandle" ∧ (parseMethodDescriptor yX5_least.desc).map (fun d => d.parameters.length) = some 1 := by decide +kernel
abbrev rm_X5_least : Room := { frames := 5, cells := 0, slots := 0, locals := 118 }
abbrev q_X5_least (dC : Nat → ClassId) (dI : Nat → Nat → Nat) (cI cJ cZ : ClassId) (ht ht_text ht_bench ht_acts ht_drawers ht_told ht_pagesOfTrial ht_kept ht_bench_drops ht_bench_from ht_bench_to ht_bench_tires ht_bench_copies ht_bench_pages : Nat) (vt_spoken : Int32) (vt_nowSeed : Int64) (vt_bench_size : Int32) (vt_bench_drops : Nat → Int32) (vt_bench_from : Nat → Int32) (vt_bench_to : Nat → Int32) (vt_bench_tires : Nat → Int32) (vt_bench_copies : Nat → Int32) (vt_told : Nat → Int32) (R : Int32 × (Nat → Int32)) (A : Nat → Prop) : Array Value → State → Outcome → State → Prop := va_Qi (fun (r : Int32) (u : (Nat → Int32)) => R.1 = r ∧ R.2 = u) (fun (u : (Nat → Int32)) (t : State) => va_P (dC, dI) vwCl [(ht, .inr (4, [.ref ht_text, .ref ht_bench, .ref ht_acts, .ref ht_drawers, .ref ht_told, .ref ht_pagesOfTrial, .ref ht_kept, .int vt_spoken, .long vt_nowSeed])), (ht_bench, .inr (1, [.ref ht_bench_drops, .ref ht_bench_from, .ref ht_bench_to, .ref ht_bench_tires, .ref ht_bench_copies, .ref ht_bench_pages, .int vt_bench_size])), (ht_bench_drops, .inl (cI, 4, .inl vt_bench_drops)), (ht_bench_from, .inl (cI, 4, .inl vt_bench_from)), (ht_bench_to, .inl (cI, 4, .inl vt_bench_to)), (ht_bench_tires, .inl (cI, 4, .inl vt_bench_tires)), (ht_bench_copies, .inl (cI, 4, .inl vt_bench_copies)), (ht_bench_pages, .inl (cI, 4, .inl u)), (ht_told, .inl (cI, 4, .inl vt_told))] t.heap ∧ va_K (dC, dI) vwCl [(cI, .int), (cJ, .long), (cZ, .boolean)] t ∧ va_D A [(ht, .inr (4, [.ref ht_text, .ref ht_bench, .ref ht_acts, .ref ht_drawers, .ref ht_told, .ref ht_pagesOfTrial, .ref ht_kept, .int vt_spoken, .long vt_nowSeed])), (ht_bench, .inr (1, [.ref ht_bench_drops, .ref ht_bench_from, .ref ht_bench_to, .ref ht_bench_tires, .ref ht_bench_copies, .ref ht_bench_pages, .int vt_bench_size])), (ht_bench_drops, .inl (cI, 4, .inl vt_bench_drops)), (ht_bench_from, .inl (cI, 4, .inl vt_bench_from)), (ht_bench_to, .inl (cI, 4, .inl vt_bench_to)), (ht_bench_tires, .inl (cI, 4, .inl vt_bench_tires)), (ht_bench_copies, .inl (cI, 4, .inl vt_bench_copies)), (ht_bench_pages, .inl (cI, 4, .inl u)), (ht_told, .inl (cI, 4, .inl vt_told))]) A
set_option maxHeartbeats 4000000 in
set_option maxRecDepth 100000 in
theorem k_X5_least (l : Launch) (dC : Nat → ClassId) (dI : Nat → Nat → Nat) (cI cJ cZ : ClassId) (sz : Nat) (ht ht_text ht_bench ht_acts ht_drawers ht_told ht_pagesOfTrial ht_kept ht_bench_drops ht_bench_from ht_bench_to ht_bench_tires ht_bench_copies ht_bench_pages : Nat) (a1 : Int32) (vt_spoken : Int32) (vt_nowSeed : Int64) (vt_bench_size : Int32) (vt_bench_drops : Nat → Int32) (vt_bench_from : Nat → Int32) (vt_bench_to : Nat → Int32) (vt_bench_tires : Nat → Int32) (vt_bench_copies : Nat → Int32) (vt_bench_pages : Nat → Int32) (vt_told : Nat → Int32) (N : Nat) (R : Int32 × (Nat → Int32)) (hf : f_X5_least N a1 vt_bench_size vt_bench_drops vt_bench_from vt_bench_to vt_bench_tires vt_bench_copies vt_bench_pages vt_told = some R) : Met l yX5_least wsX5_least (rm_X5_least) (va_Pc [.ref ht, .int a1] (fun U => U.heap.size = sz ∧ va_P (dC, dI) vwCl [(ht, .inr (4, [.ref ht_text, .ref ht_bench, .ref ht_acts, .ref ht_drawers, .ref ht_told, .ref ht_pagesOfTrial, .ref ht_kept, .int vt_spoken, .long vt_nowSeed])), (ht_bench, .inr (1, [.ref ht_bench_drops, .ref ht_bench_from, .ref ht_bench_to, .ref ht_bench_tires, .ref ht_bench_copies, .ref ht_bench_pages, .int vt_bench_size])), (ht_bench_drops, .inl (cI, 4, .inl vt_bench_drops)), (ht_bench_from, .inl (cI, 4, .inl vt_bench_from)), (ht_bench_to, .inl (cI, 4, .inl vt_bench_to)), (ht_bench_tires, .inl (cI, 4, .inl vt_bench_tires)), (ht_bench_copies, .inl (cI, 4, .inl vt_bench_copies)), (ht_bench_pages, .inl (cI, 4, .inl vt_bench_pages)), (ht_told, .inl (cI, 4, .inl vt_told))] U.heap ∧ va_K (dC, dI) vwCl [(cI, .int), (cJ, .long), (cZ, .boolean)] U ∧ va_D (fun _ => True) [(ht, .inr (4, [.ref ht_text, .ref ht_bench, .ref ht_acts, .ref ht_drawers, .ref ht_told, .ref ht_pagesOfTrial, .ref ht_kept, .int vt_spoken, .long vt_nowSeed])), (ht_bench, .inr (1, [.ref ht_bench_drops, .ref ht_bench_from, .ref ht_bench_to, .ref ht_bench_tires, .ref ht_bench_copies, .ref ht_bench_pages, .int vt_bench_size])), (ht_bench_drops, .inl (cI, 4, .inl vt_bench_drops)), (ht_bench_from, .inl (cI, 4, .inl vt_bench_from)), (ht_bench_to, .inl (cI, 4, .inl vt_bench_to)), (ht_bench_tires, .inl (cI, 4, .inl vt_bench_tires)), (ht_bench_copies, .inl (cI, 4, .inl vt_bench_copies)), (ht_bench_pages, .inl (cI, 4, .inl vt_bench_pages)), (ht_told, .inl (cI, 4, .inl vt_told))])) (q_X5_least dC dI cI cJ cZ ht ht_text ht_bench ht_acts ht_drawers ht_told ht_pagesOfTrial ht_kept ht_bench_drops ht_bench_from ht_bench_to ht_bench_tires ht_bench_copies ht_bench_pages vt_spoken vt_nowSeed vt_bench_size vt_bench_drops vt_bench_from vt_bench_to vt_bench_tires vt_bench_copies vt_told R (va_A [(ht, .inr (4, [.ref ht_text, .ref ht_bench, .ref ht_acts, .ref ht_drawers, .ref ht_told, .ref ht_pagesOfTrial, .ref ht_kept, .int vt_spoken, .long vt_nowSeed])), (ht_bench, .inr (1, [.ref ht_bench_drops, .ref ht_bench_from, .ref ht_bench_to, .ref ht_bench_tires, .ref ht_bench_copies, .ref ht_bench_pages, .int vt_bench_size])), (ht_bench_drops, .inl (cI, 4, .inl vt_bench_drops)), (ht_bench_from, .inl (cI, 4, .inl vt_bench_from)), (ht_bench_to, .inl (cI, 4, .inl vt_bench_to)), (ht_bench_tires, .inl (cI, 4, .inl vt_bench_tires)), (ht_bench_copies, .inl (cI, 4, .inl vt_bench_copies)), (ht_bench_pages, .inl (cI, 4, .inl vt_bench_pages)), (ht_told, .inl (cI, 4, .inl vt_told))] sz)) 0 0 (va_A [(ht, .inr (4, [.ref ht_text, .ref ht_bench, .ref ht_acts, .ref ht_drawers, .ref ht_told, .ref ht_pagesOfTrial, .ref ht_kept, .int vt_spoken, .long vt_nowSeed])), (ht_bench, .inr (1, [.ref ht_bench_drops, .ref ht_bench_from, .ref ht_bench_to, .ref ht_bench_tires, .ref ht_bench_copies, .ref ht_bench_pages, .int vt_bench_size])), (ht_bench_drops, .inl (cI, 4, .inl vt_bench_drops)), (ht_bench_from, .inl (cI, 4, .inl vt_bench_from)), (ht_bench_to, .inl (cI, 4, .inl vt_bench_to)), (ht_bench_tires, .inl (cI, 4, .inl vt_bench_tires)), (ht_bench_copies, .inl (cI, 4, .inl vt_bench_copies)), (ht_bench_pages, .inl (cI, 4, .inl vt_bench_pages)), (ht_told, .inl (cI, 4, .inl vt_told))] sz) := by
  refine Met.ofW (cc := cX5_least) (maxL := 4) (ret := (some .int)) (by decide) rfl ?_
  intro p e s m args below meth c s₁ B hml hv
  obtain ⟨rfl, hsz, hP, hK, hD0⟩ := hv
  have hx := B.exec
  have hb := B.bytes
  have hr := B.returns
  have hts := atoms_spec (ws := wsX5_least) B.pre
  have hown : s.vm.findClass RX5 = some m.cls := findClass_of_methodNamed B.named
  have hlocks := B.notSynchronized
  clear B
  subst hsz
  have hD := hD0.self (sz := s.heap.size)
  clear hD0
  generalize hAe : va_A [(ht, .inr (4, [.ref ht_text, .ref ht_bench, .ref ht_acts, .ref ht_drawers, .ref ht_told, .ref ht_pagesOfTrial, .ref ht_kept, .int vt_spoken, .long vt_nowSeed])), (ht_bench, .inr (1, [.ref ht_bench_drops, .ref ht_bench_from, .ref ht_bench_to, .ref ht_bench_tires, .ref ht_bench_copies, .ref ht_bench_pages, .int vt_bench_size])), (ht_bench_drops, .inl (cI, 4, .inl vt_bench_drops)), (ht_bench_from, .inl (cI, 4, .inl vt_bench_from)), (ht_bench_to, .inl (cI, 4, .inl vt_bench_to)), (ht_bench_tires, .inl (cI, 4, .inl vt_bench_tires)), (ht_bench_copies, .inl (cI, 4, .inl vt_bench_copies)), (ht_bench_pages, .inl (cI, 4, .inl vt_bench_pages)), (ht_told, .inl (cI, 4, .inl vt_told))] s.heap.size = A at hD ⊢
  have hA : ∀ q : Nat, s.heap.size ≤ q → A q := fun q h => by rw [← hAe]; exact Or.inr h
  clear hAe
  have hS : va_S A s.heap s.heap [] := va_S.rf
  have hl := lv_entry ([.ref ht, .int a1]) (n := 4) (Nat.le_of_ble_eq_true rfl)
  rw [lg_entry_eq]
  generalize (lg_sl ([.ref ht, .int a1]) ++ List.replicate (4 - (lg_sl ([.ref ht, .int a1])).length) Slot.unset).toArray = ls at hl ⊢
  have hl : lv_has ls 4 [(0, .ref ht), (1, .int a1)] := hl
  unfold f_X5_least at hf
  refine lv_iload_n hx hb dX5_least_0 rfl (lv_at hl 1 rfl) ?_
  refine lv_iconst (v := 0) hx hb dX5_least_1 (by decide) ?_
  obtain ⟨x1, hx1, hf⟩ := dg_bind hf
  have hPc : va_P (dC, dI) vwCl [] s.heap := hP.sub [] rfl
  have hDc : va_D A [] := hD.sub [] (by decide) rfl
  have hFc := va_free (wc := []) hD hS hA [] rfl
  refine va_calli (va_runS (As := [.int a1, .int (0:Int32)]) (rest := []) ⟨hx, hb, hml, hown, hts⟩ (k_X5_isLength l dC dI cI cJ cZ s.heap.size a1 (0:Int32) N x1 hx1) (va_cwS 2 hts gX5_least_X5_isLength rfl rfl rfl hd_X5_isLength ⟨Nat.le_of_ble_eq_true rfl, Nat.le_of_ble_eq_true rfl⟩) ⟨blind_pc, pre_pc hPc hK hDc⟩ rfl rfl hl.1 rfl (lv_room (Nat.le_of_ble_eq_true rfl)) dX5_least_2 ⟨Nat.zero_le _, Nat.zero_le _⟩) hS (fun q _ h => hFc q h) hFc (fun r u t H1 locs eth hvm hw hB hz1 hk1 hS => ?_)
  obtain ⟨hP1, hK1, hD1⟩ := hB
  rw [eth] at hP1
  subst hw
  obtain ⟨hP, hD⟩ := va_join (wr := [(ht, .inr (4, [.ref ht_text, .ref ht_bench, .ref ht_acts, .ref ht_drawers, .ref ht_told, .ref ht_pagesOfTrial, .ref ht_kept, .int vt_spoken, .long vt_nowSeed])), (ht_bench, .inr (1, [.ref ht_bench_drops, .ref ht_bench_from, .ref ht_bench_to, .ref ht_bench_tires, .ref ht_bench_copies, .ref ht_bench_pages, .int vt_bench_size])), (ht_bench_drops, .inl (cI, 4, .inl vt_bench_drops)), (ht_bench_from, .inl (cI, 4, .inl vt_bench_from)), (ht_bench_to, .inl (cI, 4, .inl vt_bench_to)), (ht_bench_tires, .inl (cI, 4, .inl vt_bench_tires)), (ht_bench_copies, .inl (cI, 4, .inl vt_bench_copies)), (ht_bench_pages, .inl (cI, 4, .inl vt_bench_pages)), (ht_told, .inl (cI, 4, .inl vt_told))]) (w1 := []) hP hD [] [0, 1, 2, 3, 4, 5, 6, 7, 8] rfl rfl (by decide) (by decide) hk1 hFc hP1 hD1
  clear hP1 hK1 hD1 hPc hDc hFc hk1 hz1 hvm eth
  generalize H1 = H at hP hS ⊢
  have hP : va_P (dC, dI) vwCl [(ht, .inr (4, [.ref ht_text, .ref ht_bench, .ref ht_acts, .ref ht_drawers, .ref ht_told, .ref ht_pagesOfTrial, .ref ht_kept, .int vt_spoken, .long vt_nowSeed])), (ht_bench, .inr (1, [.ref ht_bench_drops, .ref ht_bench_from, .ref ht_bench_to, .ref ht_bench_tires, .ref ht_bench_copies, .ref ht_bench_pages, .int vt_bench_size])), (ht_bench_drops, .inl (cI, 4, .inl vt_bench_drops)), (ht_bench_from, .inl (cI, 4, .inl vt_bench_from)), (ht_bench_to, .inl (cI, 4, .inl vt_bench_to)), (ht_bench_tires, .inl (cI, 4, .inl vt_bench_tires)), (ht_bench_copies, .inl (cI, 4, .inl vt_bench_copies)), (ht_bench_pages, .inl (cI, 4, .inl vt_bench_pages)), (ht_told, .inl (cI, 4, .inl vt_told))] H := hP
  have hD : va_D A [(ht, .inr (4, [.ref ht_text, .ref ht_bench, .ref ht_acts, .ref ht_drawers, .ref ht_told, .ref ht_pagesOfTrial, .ref ht_kept, .int vt_spoken, .long vt_nowSeed])), (ht_bench, .inr (1, [.ref ht_bench_drops, .ref ht_bench_from, .ref ht_bench_to, .ref ht_bench_tires, .ref ht_bench_copies, .ref ht_bench_pages, .int vt_bench_size])), (ht_bench_drops, .inl (cI, 4, .inl vt_bench_drops)), (ht_bench_from, .inl (cI, 4, .inl vt_bench_from)), (ht_bench_to, .inl (cI, 4, .inl vt_bench_to)), (ht_bench_tires, .inl (cI, 4, .inl vt_bench_tires)), (ht_bench_copies, .inl (cI, 4, .inl vt_bench_copies)), (ht_bench_pages, .inl (cI, 4, .inl vt_bench_pages)), (ht_told, .inl (cI, 4, .inl vt_told))] := hD
  refine lv_if_ne (tgt := 11) hx hb dX5_least_5 (by decide) (fun c2 => ?_) (fun c2 => ?_)
  · replace hf := dg_f c2 hf
    refine lv_iload_n hx hb dX5_least_11 rfl (lv_at hl 1 rfl) ?_
    obtain ⟨x3, hx3, hf⟩ := dg_bind hf
    have hPc : va_P (dC, dI) vwCl [] H := hP.sub [] rfl
    have hDc : va_D A [] := hD.sub [] (by decide) rfl
    have hFc := va_free (wc := []) hD hS hA [] rfl
    refine va_calli (va_runS (As := [.int a1]) (rest := []) ⟨hx, hb, hml, hown, hts⟩ (k_X4_endOf l dC dI cI cJ cZ H.size a1 N x3 hx3) (va_cwS 1 hts gX5_least_X4_endOf rfl rfl rfl hd_X4_endOf ⟨Nat.le_of_ble_eq_true rfl, Nat.le_of_ble_eq_true rfl⟩) ⟨blind_pc, pre_pc hPc hK hDc⟩ rfl rfl hl.1 rfl (lv_room (Nat.le_of_ble_eq_true rfl)) dX5_least_12 ⟨Nat.zero_le _, Nat.zero_le _⟩) hS (fun q _ h => hFc q h) hFc (fun r u t H1 locs eth hvm hw hB hz1 hk1 hS => ?_)
    obtain ⟨hP1, hK1, hD1⟩ := hB
    rw [eth] at hP1
    subst hw
    obtain ⟨hP, hD⟩ := va_join (wr := [(ht, .inr (4, [.ref ht_text, .ref ht_bench, .ref ht_acts, .ref ht_drawers, .ref ht_told, .ref ht_pagesOfTrial, .ref ht_kept, .int vt_spoken, .long vt_nowSeed])), (ht_bench, .inr (1, [.ref ht_bench_drops, .ref ht_bench_from, .ref ht_bench_to, .ref ht_bench_tires, .ref ht_bench_copies, .ref ht_bench_pages, .int vt_bench_size])), (ht_bench_drops, .inl (cI, 4, .inl vt_bench_drops)), (ht_bench_from, .inl (cI, 4, .inl vt_bench_from)), (ht_bench_to, .inl (cI, 4, .inl vt_bench_to)), (ht_bench_tires, .inl (cI, 4, .inl vt_bench_tires)), (ht_bench_copies, .inl (cI, 4, .inl vt_bench_copies)), (ht_bench_pages, .inl (cI, 4, .inl vt_bench_pages)), (ht_told, .inl (cI, 4, .inl vt_told))]) (w1 := []) hP hD [] [0, 1, 2, 3, 4, 5, 6, 7, 8] rfl rfl (by decide) (by decide) hk1 hFc hP1 hD1
    clear hP1 hK1 hD1 hPc hDc hFc hk1 hz1 hvm eth
    generalize H1 = H at hP hS ⊢
    have hP : va_P (dC, dI) vwCl [(ht, .inr (4, [.ref ht_text, .ref ht_bench, .ref ht_acts, .ref ht_drawers, .ref ht_told, .ref ht_pagesOfTrial, .ref ht_kept, .int vt_spoken, .long vt_nowSeed])), (ht_bench, .inr (1, [.ref ht_bench_drops, .ref ht_bench_from, .ref ht_bench_to, .ref ht_bench_tires, .ref ht_bench_copies, .ref ht_bench_pages, .int vt_bench_size])), (ht_bench_drops, .inl (cI, 4, .inl vt_bench_drops)), (ht_bench_from, .inl (cI, 4, .inl vt_bench_from)), (ht_bench_to, .inl (cI, 4, .inl vt_bench_to)), (ht_bench_tires, .inl (cI, 4, .inl vt_bench_tires)), (ht_bench_copies, .inl (cI, 4, .inl vt_bench_copies)), (ht_bench_pages, .inl (cI, 4, .inl vt_bench_pages)), (ht_told, .inl (cI, 4, .inl vt_told))] H := hP
    have hD : va_D A [(ht, .inr (4, [.ref ht_text, .ref ht_bench, .ref ht_acts, .ref ht_drawers, .ref ht_told, .ref ht_pagesOfTrial, .ref ht_kept, .int vt_spoken, .long vt_nowSeed])), (ht_bench, .inr (1, [.ref ht_bench_drops, .ref ht_bench_from, .ref ht_bench_to, .ref ht_bench_tires, .ref ht_bench_copies, .ref ht_bench_pages, .int vt_bench_size])), (ht_bench_drops, .inl (cI, 4, .inl vt_bench_drops)), (ht_bench_from, .inl (cI, 4, .inl vt_bench_from)), (ht_bench_to, .inl (cI, 4, .inl vt_bench_to)), (ht_bench_tires, .inl (cI, 4, .inl vt_bench_tires)), (ht_bench_copies, .inl (cI, 4, .inl vt_bench_copies)), (ht_bench_pages, .inl (cI, 4, .inl vt_bench_pages)), (ht_told, .inl (cI, 4, .inl vt_told))] := hD
    refine lv_istore_n (lv' := [(2, .int x3), (0, .ref ht), (1, .int a1)]) hx hb dX5_least_15 rfl hl (by decide) rfl (fun ls hl => ?_)
    refine lv_iload_n hx hb dX5_least_16 rfl (lv_at hl 2 rfl) ?_
    obtain ⟨x4, hx4, hf⟩ := dg_bind hf
    have hPc : va_P (dC, dI) vwCl [] H := hP.sub [] rfl
    have hDc : va_D A [] := hD.sub [] (by decide) rfl
    have hFc := va_free (wc := []) hD hS hA [] rfl
    refine va_calli (va_runS (As := [.int a1]) (rest := []) ⟨hx, hb, hml, hown, hts⟩ (k_X4_firstOf l dC dI cI cJ cZ H.size a1 N x4 hx4) (va_cwS 1 hts gX5_least_X4_firstOf rfl rfl rfl hd_X4_firstOf ⟨Nat.le_of_ble_eq_true rfl, Nat.le_of_ble_eq_true rfl⟩) ⟨blind_pc, pre_pc hPc hK hDc⟩ rfl rfl hl.1 rfl (lv_room (Nat.le_of_ble_eq_true rfl)) dX5_least_17 ⟨Nat.zero_le _, Nat.zero_le _⟩) hS (fun q _ h => hFc q h) hFc (fun r u t H1 locs eth hvm hw hB hz1 hk1 hS => ?_)
    obtain ⟨hP1, hK1, hD1⟩ := hB
    rw [eth] at hP1
    subst hw
    obtain ⟨hP, hD⟩ := va_join (wr := [(ht, .inr (4, [.ref ht_text, .ref ht_bench, .ref ht_acts, .ref ht_drawers, .ref ht_told, .ref ht_pagesOfTrial, .ref ht_kept, .int vt_spoken, .long vt_nowSeed])), (ht_bench, .inr (1, [.ref ht_bench_drops, .ref ht_bench_from, .ref ht_bench_to, .ref ht_bench_tires, .ref ht_bench_copies, .ref ht_bench_pages, .int vt_bench_size])), (ht_bench_drops, .inl (cI, 4, .inl vt_bench_drops)), (ht_bench_from, .inl (cI, 4, .inl vt_bench_from)), (ht_bench_to, .inl (cI, 4, .inl vt_bench_to)), (ht_bench_tires, .inl (cI, 4, .inl vt_bench_tires)), (ht_bench_copies, .inl (cI, 4, .inl vt_bench_copies)), (ht_bench_pages, .inl (cI, 4, .inl vt_bench_pages)), (ht_told, .inl (cI, 4, .inl vt_told))]) (w1 := []) hP hD [] [0, 1, 2, 3, 4, 5, 6, 7, 8] rfl rfl (by decide) (by decide) hk1 hFc hP1 hD1
    clear hP1 hK1 hD1 hPc hDc hFc hk1 hz1 hvm eth
    generalize H1 = H at hP hS ⊢
    have hP : va_P (dC, dI) vwCl [(ht, .inr (4, [.ref ht_text, .ref ht_bench, .ref ht_acts, .ref ht_drawers, .ref ht_told, .ref ht_pagesOfTrial, .ref ht_kept, .int vt_spoken, .long vt_nowSeed])), (ht_bench, .inr (1, [.ref ht_bench_drops, .ref ht_bench_from, .ref ht_bench_to, .ref ht_bench_tires, .ref ht_bench_copies, .ref ht_bench_pages, .int vt_bench_size])), (ht_bench_drops, .inl (cI, 4, .inl vt_bench_drops)), (ht_bench_from, .inl (cI, 4, .inl vt_bench_from)), (ht_bench_to, .inl (cI, 4, .inl vt_bench_to)), (ht_bench_tires, .inl (cI, 4, .inl vt_bench_tires)), (ht_bench_copies, .inl (cI, 4, .inl vt_bench_copies)), (ht_bench_pages, .inl (cI, 4, .inl vt_bench_pages)), (ht_told, .inl (cI, 4, .inl vt_told))] H := hP
    have hD : va_D A [(ht, .inr (4, [.ref ht_text, .ref ht_bench, .ref ht_acts, .ref ht_drawers, .ref ht_told, .ref ht_pagesOfTrial, .ref ht_kept, .int vt_spoken, .long vt_nowSeed])), (ht_bench, .inr (1, [.ref ht_bench_drops, .ref ht_bench_from, .ref ht_bench_to, .ref ht_bench_tires, .ref ht_bench_copies, .ref ht_bench_pages, .int vt_bench_size])), (ht_bench_drops, .inl (cI, 4, .inl vt_bench_drops)), (ht_bench_from, .inl (cI, 4, .inl vt_bench_from)), (ht_bench_to, .inl (cI, 4, .inl vt_bench_to)), (ht_bench_tires, .inl (cI, 4, .inl vt_bench_tires)), (ht_bench_copies, .inl (cI, 4, .inl vt_bench_copies)), (ht_bench_pages, .inl (cI, 4, .inl vt_bench_pages)), (ht_told, .inl (cI, 4, .inl vt_told))] := hD
    refine lv_istore_n (lv' := [(3, .int x4), (2, .int x3), (0, .ref ht), (1, .int a1)]) hx hb dX5_least_20 rfl hl (by decide) rfl (fun ls hl => ?_)
    have ex21 : ∀ (z3_21 : Int32) (zvt_bench_pages_21 : (Nat → Int32)) (H : Heap) (locs : List Loc) (ls : Array Slot), va_P (dC, dI) vwCl [(ht, .inr (4, [.ref ht_text, .ref ht_bench, .ref ht_acts, .ref ht_drawers, .ref ht_told, .ref ht_pagesOfTrial, .ref ht_kept, .int vt_spoken, .long vt_nowSeed])), (ht_bench, .inr (1, [.ref ht_bench_drops, .ref ht_bench_from, .ref ht_bench_to, .ref ht_bench_tires, .ref ht_bench_copies, .ref ht_bench_pages, .int vt_bench_size])), (ht_bench_drops, .inl (cI, 4, .inl vt_bench_drops)), (ht_bench_from, .inl (cI, 4, .inl vt_bench_from)), (ht_bench_to, .inl (cI, 4, .inl vt_bench_to)), (ht_bench_tires, .inl (cI, 4, .inl vt_bench_tires)), (ht_bench_copies, .inl (cI, 4, .inl vt_bench_copies)), (ht_bench_pages, .inl (cI, 4, .inl zvt_bench_pages_21)), (ht_told, .inl (cI, 4, .inl vt_told))] H → va_D A [(ht, .inr (4, [.ref ht_text, .ref ht_bench, .ref ht_acts, .ref ht_drawers, .ref ht_told, .ref ht_pagesOfTrial, .ref ht_kept, .int vt_spoken, .long vt_nowSeed])), (ht_bench, .inr (1, [.ref ht_bench_drops, .ref ht_bench_from, .ref ht_bench_to, .ref ht_bench_tires, .ref ht_bench_copies, .ref ht_bench_pages, .int vt_bench_size])), (ht_bench_drops, .inl (cI, 4, .inl vt_bench_drops)), (ht_bench_from, .inl (cI, 4, .inl vt_bench_from)), (ht_bench_to, .inl (cI, 4, .inl vt_bench_to)), (ht_bench_tires, .inl (cI, 4, .inl vt_bench_tires)), (ht_bench_copies, .inl (cI, 4, .inl vt_bench_copies)), (ht_bench_pages, .inl (cI, 4, .inl zvt_bench_pages_21)), (ht_told, .inl (cI, 4, .inl vt_told))] → va_S A s.heap H locs → lv_has ls 4 [(3, .int z3_21), (2, .int x3), (0, .ref ht), (1, .int a1)] → (some ((-9:Int32), zvt_bench_pages_21)) = some R → W p l e (rm_X5_least) s m ([.ref ht, .int a1] : List Value).toArray below meth c H locs 0 0 (MQ below (q_X5_least dC dI cI cJ cZ ht ht_text ht_bench ht_acts ht_drawers ht_told ht_pagesOfTrial ht_kept ht_bench_drops ht_bench_from ht_bench_to ht_bench_tires ht_bench_copies ht_bench_pages vt_spoken vt_nowSeed vt_bench_size vt_bench_drops vt_bench_from vt_bench_to vt_bench_tires vt_bench_copies vt_told R A) ([.ref ht, .int a1] : List Value).toArray s 0 0 A) (F0 m 45 ls []) := by
      intro z3_21 zvt_bench_pages_21 H locs ls hP hD hS hl hf
      refine lv_bipush (v := -9) hx hb dX5_least_45 (by decide) ?_
      have he := Option.some.inj hf
      have hP9 := hP
      have hD9 := hD
      exact W.iret (v := (-9:Int32)) hx hb hr (fun t eth hW => ⟨⟨(-9:Int32), zvt_bench_pages_21, rfl, ⟨(congrArg Prod.fst he).symm, (congrArg Prod.snd he).symm⟩, by rw [eth]; exact hP9, va_K.moved hW.alike hK, hD9⟩, hS.F eth⟩) hS.2.2 dX5_least_47
    have lp21 : ∀ (n21 : Nat) (y3_21 : Int32) (yvt_bench_pages_21 : (Nat → Int32)) (H : Heap) (locs : List Loc) (ls : Array Slot), va_P (dC, dI) vwCl [(ht, .inr (4, [.ref ht_text, .ref ht_bench, .ref ht_acts, .ref ht_drawers, .ref ht_told, .ref ht_pagesOfTrial, .ref ht_kept, .int vt_spoken, .long vt_nowSeed])), (ht_bench, .inr (1, [.ref ht_bench_drops, .ref ht_bench_from, .ref ht_bench_to, .ref ht_bench_tires, .ref ht_bench_copies, .ref ht_bench_pages, .int vt_bench_size])), (ht_bench_drops, .inl (cI, 4, .inl vt_bench_drops)), (ht_bench_from, .inl (cI, 4, .inl vt_bench_from)), (ht_bench_to, .inl (cI, 4, .inl vt_bench_to)), (ht_bench_tires, .inl (cI, 4, .inl vt_bench_tires)), (ht_bench_copies, .inl (cI, 4, .inl vt_bench_copies)), (ht_bench_pages, .inl (cI, 4, .inl yvt_bench_pages_21)), (ht_told, .inl (cI, 4, .inl vt_told))] H → va_D A [(ht, .inr (4, [.ref ht_text, .ref ht_bench, .ref ht_acts, .ref ht_drawers, .ref ht_told, .ref ht_pagesOfTrial, .ref ht_kept, .int vt_spoken, .long vt_nowSeed])), (ht_bench, .inr (1, [.ref ht_bench_drops, .ref ht_bench_from, .ref ht_bench_to, .ref ht_bench_tires, .ref ht_bench_copies, .ref ht_bench_pages, .int vt_bench_size])), (ht_bench_drops, .inl (cI, 4, .inl vt_bench_drops)), (ht_bench_from, .inl (cI, 4, .inl vt_bench_from)), (ht_bench_to, .inl (cI, 4, .inl vt_bench_to)), (ht_bench_tires, .inl (cI, 4, .inl vt_bench_tires)), (ht_bench_copies, .inl (cI, 4, .inl vt_bench_copies)), (ht_bench_pages, .inl (cI, 4, .inl yvt_bench_pages_21)), (ht_told, .inl (cI, 4, .inl vt_told))] → va_S A s.heap H locs → lv_has ls 4 [(3, .int y3_21), (2, .int x3), (0, .ref ht), (1, .int a1)] → f_X5_least_21 N vt_bench_size vt_bench_drops vt_bench_from vt_bench_to vt_bench_tires vt_bench_copies vt_told x3 (fun z3_21 zvt_bench_pages_21 => some ((-9:Int32), zvt_bench_pages_21)) n21 y3_21 yvt_bench_pages_21 = some R → W p l e (rm_X5_least) s m ([.ref ht, .int a1] : List Value).toArray below meth c H locs 0 0 (MQ below (q_X5_least dC dI cI cJ cZ ht ht_text ht_bench ht_acts ht_drawers ht_told ht_pagesOfTrial ht_kept ht_bench_drops ht_bench_from ht_bench_to ht_bench_tires ht_bench_copies ht_bench_pages vt_spoken vt_nowSeed vt_bench_size vt_bench_drops vt_bench_from vt_bench_to vt_bench_tires vt_bench_copies vt_told R A) ([.ref ht, .int a1] : List Value).toArray s 0 0 A) (F0 m 21 ls []) := by
      intro n21
      induction n21 with
      | zero => intro y3_21 yvt_bench_pages_21 H locs ls hP hD hS hl hf; rw [f_X5_least_21] at hf; cases hf
      | succ n21 ih21 =>
        intro y3_21 yvt_bench_pages_21 H locs ls hP hD hS hl hf
        rw [f_X5_least_21] at hf
        refine lv_iload_n hx hb dX5_least_21 rfl (lv_at hl 0 rfl) ?_
        refine lv_iload_n hx hb dX5_least_22 rfl (lv_at hl 1 rfl) ?_
        refine lv_icmp_ge (tgt := 45) hx hb dX5_least_23 (by decide) (fun c5 => ?_) (fun c5 => ?_)
        · replace hf := dg_t c5 hf
          exact ex21 y3_21 yvt_bench_pages_21 _ _ _ hP hD hS (lv_sub hl [0, 1, 2, 3] rfl) hf
        · replace hf := dg_f c5 hf
          refine lv_aload_n hx hb dX5_least_26 rfl (lv_at hl 2 rfl) ?_
          refine lv_iload_n hx hb dX5_least_27 rfl (lv_at hl 0 rfl) ?_
          obtain ⟨x6, hx6, hf⟩ := dg_bind hf
          have hPc : va_P (dC, dI) vwCl [(ht, .inr (4, [.ref ht_text, .ref ht_bench, .ref ht_acts, .ref ht_drawers, .ref ht_told, .ref ht_pagesOfTrial, .ref ht_kept, .int vt_spoken, .long vt_nowSeed])), (ht_bench, .inr (1, [.ref ht_bench_drops, .ref ht_bench_from, .ref ht_bench_to, .ref ht_bench_tires, .ref ht_bench_copies, .ref ht_bench_pages, .int vt_bench_size])), (ht_bench_drops, .inl (cI, 4, .inl vt_bench_drops)), (ht_bench_from, .inl (cI, 4, .inl vt_bench_from)), (ht_bench_to, .inl (cI, 4, .inl vt_bench_to)), (ht_bench_tires, .inl (cI, 4, .inl vt_bench_tires)), (ht_bench_copies, .inl (cI, 4, .inl vt_bench_copies)), (ht_bench_pages, .inl (cI, 4, .inl yvt_bench_pages_21)), (ht_told, .inl (cI, 4, .inl vt_told))] H := hP.sub [0, 1, 2, 3, 4, 5, 6, 7, 8] rfl
          have hDc : va_D A [(ht, .inr (4, [.ref ht_text, .ref ht_bench, .ref ht_acts, .ref ht_drawers, .ref ht_told, .ref ht_pagesOfTrial, .ref ht_kept, .int vt_spoken, .long vt_nowSeed])), (ht_bench, .inr (1, [.ref ht_bench_drops, .ref ht_bench_from, .ref ht_bench_to, .ref ht_bench_tires, .ref ht_bench_copies, .ref ht_bench_pages, .int vt_bench_size])), (ht_bench_drops, .inl (cI, 4, .inl vt_bench_drops)), (ht_bench_from, .inl (cI, 4, .inl vt_bench_from)), (ht_bench_to, .inl (cI, 4, .inl vt_bench_to)), (ht_bench_tires, .inl (cI, 4, .inl vt_bench_tires)), (ht_bench_copies, .inl (cI, 4, .inl vt_bench_copies)), (ht_bench_pages, .inl (cI, 4, .inl yvt_bench_pages_21)), (ht_told, .inl (cI, 4, .inl vt_told))] := hD.sub [0, 1, 2, 3, 4, 5, 6, 7, 8] (by decide) rfl
          have hFc := va_free (wc := [(ht, .inr (4, [.ref ht_text, .ref ht_bench, .ref ht_acts, .ref ht_drawers, .ref ht_told, .ref ht_pagesOfTrial, .ref ht_kept, .int vt_spoken, .long vt_nowSeed])), (ht_bench, .inr (1, [.ref ht_bench_drops, .ref ht_bench_from, .ref ht_bench_to, .ref ht_bench_tires, .ref ht_bench_copies, .ref ht_bench_pages, .int vt_bench_size])), (ht_bench_drops, .inl (cI, 4, .inl vt_bench_drops)), (ht_bench_from, .inl (cI, 4, .inl vt_bench_from)), (ht_bench_to, .inl (cI, 4, .inl vt_bench_to)), (ht_bench_tires, .inl (cI, 4, .inl vt_bench_tires)), (ht_bench_copies, .inl (cI, 4, .inl vt_bench_copies)), (ht_bench_pages, .inl (cI, 4, .inl yvt_bench_pages_21)), (ht_told, .inl (cI, 4, .inl vt_told))]) hD hS hA [0, 1, 2, 3, 4, 5, 6, 7, 8] rfl
          refine va_calli (va_runV (As := [.int y3_21]) (rest := []) ⟨hx, hb, hml, hown, hts⟩ (k_X5_isAsTold l dC dI cI cJ cZ H.size ht ht_text ht_bench ht_acts ht_drawers ht_told ht_pagesOfTrial ht_kept ht_bench_drops ht_bench_from ht_bench_to ht_bench_tires ht_bench_copies ht_bench_pages y3_21 vt_spoken vt_nowSeed vt_bench_size vt_bench_drops vt_bench_from vt_bench_to vt_bench_tires vt_bench_copies yvt_bench_pages_21 vt_told N x6 hx6) (cwV 1 hts gX5_least_X5_isAsTold rfl rfl rfl hd_X5_isAsTold ⟨Nat.le_of_ble_eq_true rfl, Nat.le_of_ble_eq_true rfl⟩) ⟨blind_pc, va_recv hK hPc (ci := 4) (q0 := 0) rfl rfl, pre_pc hPc hK hDc⟩ rfl rfl hl.1 rfl (lv_room (Nat.le_of_ble_eq_true rfl)) dX5_least_28 ⟨Nat.zero_le _, Nat.zero_le _⟩) hS (fun q _ h => hFc q h) hFc (fun r u t H1 locs eth hvm hw hB hz1 hk1 hS => ?_)
          obtain ⟨hP1, hK1, hD1⟩ := hB
          rw [eth] at hP1
          obtain ⟨hw, hw2⟩ := hw
          subst hw; subst hw2
          obtain ⟨hP, hD⟩ := va_join (wr := []) (w1 := [(ht, .inr (4, [.ref ht_text, .ref ht_bench, .ref ht_acts, .ref ht_drawers, .ref ht_told, .ref ht_pagesOfTrial, .ref ht_kept, .int vt_spoken, .long vt_nowSeed])), (ht_bench, .inr (1, [.ref ht_bench_drops, .ref ht_bench_from, .ref ht_bench_to, .ref ht_bench_tires, .ref ht_bench_copies, .ref ht_bench_pages, .int vt_bench_size])), (ht_bench_drops, .inl (cI, 4, .inl vt_bench_drops)), (ht_bench_from, .inl (cI, 4, .inl vt_bench_from)), (ht_bench_to, .inl (cI, 4, .inl vt_bench_to)), (ht_bench_tires, .inl (cI, 4, .inl vt_bench_tires)), (ht_bench_copies, .inl (cI, 4, .inl vt_bench_copies)), (ht_bench_pages, .inl (cI, 4, .inl x6.2)), (ht_told, .inl (cI, 4, .inl vt_told))]) hP hD [0, 1, 2, 3, 4, 5, 6, 7, 8] [] rfl rfl (by decide) (by decide) hk1 hFc hP1 hD1
          clear hP1 hK1 hD1 hPc hDc hFc hk1 hz1 hvm eth
          generalize H1 = H at hP hS ⊢
          have hP : va_P (dC, dI) vwCl [(ht, .inr (4, [.ref ht_text, .ref ht_bench, .ref ht_acts, .ref ht_drawers, .ref ht_told, .ref ht_pagesOfTrial, .ref ht_kept, .int vt_spoken, .long vt_nowSeed])), (ht_bench, .inr (1, [.ref ht_bench_drops, .ref ht_bench_from, .ref ht_bench_to, .ref ht_bench_tires, .ref ht_bench_copies, .ref ht_bench_pages, .int vt_bench_size])), (ht_bench_drops, .inl (cI, 4, .inl vt_bench_drops)), (ht_bench_from, .inl (cI, 4, .inl vt_bench_from)), (ht_bench_to, .inl (cI, 4, .inl vt_bench_to)), (ht_bench_tires, .inl (cI, 4, .inl vt_bench_tires)), (ht_bench_copies, .inl (cI, 4, .inl vt_bench_copies)), (ht_bench_pages, .inl (cI, 4, .inl x6.2)), (ht_told, .inl (cI, 4, .inl vt_told))] H := hP
          have hD : va_D A [(ht, .inr (4, [.ref ht_text, .ref ht_bench, .ref ht_acts, .ref ht_drawers, .ref ht_told, .ref ht_pagesOfTrial, .ref ht_kept, .int vt_spoken, .long vt_nowSeed])), (ht_bench, .inr (1, [.ref ht_bench_drops, .ref ht_bench_from, .ref ht_bench_to, .ref ht_bench_tires, .ref ht_bench_copies, .ref ht_bench_pages, .int vt_bench_size])), (ht_bench_drops, .inl (cI, 4, .inl vt_bench_drops)), (ht_bench_from, .inl (cI, 4, .inl vt_bench_from)), (ht_bench_to, .inl (cI, 4, .inl vt_bench_to)), (ht_bench_tires, .inl (cI, 4, .inl vt_bench_tires)), (ht_bench_copies, .inl (cI, 4, .inl vt_bench_copies)), (ht_bench_pages, .inl (cI, 4, .inl x6.2)), (ht_told, .inl (cI, 4, .inl vt_told))] := hD
          refine lv_if_eq (tgt := 39) hx hb dX5_least_31 (by decide) (fun c7 => ?_) (fun c7 => ?_)
          · replace hf := dg_t c7 hf
            refine lv_iinc (v := (y3_21 + (1:Int32))) (lv' := [(3, .int (y3_21 + (1:Int32))), (2, .int x3), (0, .ref ht), (1, .int a1)]) hx hb dX5_least_39 hl (k := 0) rfl (by first | rfl | decide) (by decide) rfl (fun ls hl => ?_)
            refine lv_goto (tgt := 21) hx hb dX5_least_42 (by decide) ?_
            exact ih21 (y3_21 + (1:Int32)) x6.2 _ _ _ hP hD hS (lv_sub hl [0, 1, 2, 3] rfl) hf
          · replace hf := dg_f c7 hf
            refine lv_iload_n hx hb dX5_least_34 rfl (lv_at hl 0 rfl) ?_
            obtain ⟨x8, hx8, hf⟩ := dg_bind hf
            have hPc : va_P (dC, dI) vwCl [] H := hP.sub [] rfl
            have hDc : va_D A [] := hD.sub [] (by decide) rfl
            have hFc := va_free (wc := []) hD hS hA [] rfl
            refine va_calli (va_runS (As := [.int y3_21]) (rest := []) ⟨hx, hb, hml, hown, hts⟩ (k_X4_asFigures l dC dI cI cJ cZ H.size y3_21 N x8 hx8) (va_cwS 1 hts gX5_least_X4_asFigures rfl rfl rfl hd_X4_asFigures ⟨Nat.le_of_ble_eq_true rfl, Nat.le_of_ble_eq_true rfl⟩) ⟨blind_pc, pre_pc hPc hK hDc⟩ rfl rfl hl.1 rfl (lv_room (Nat.le_of_ble_eq_true rfl)) dX5_least_35 ⟨Nat.zero_le _, Nat.zero_le _⟩) hS (fun q _ h => hFc q h) hFc (fun r u t H1 locs eth hvm hw hB hz1 hk1 hS => ?_)
            obtain ⟨hP1, hK1, hD1⟩ := hB
            rw [eth] at hP1
            subst hw
            obtain ⟨hP, hD⟩ := va_join (wr := [(ht, .inr (4, [.ref ht_text, .ref ht_bench, .ref ht_acts, .ref ht_drawers, .ref ht_told, .ref ht_pagesOfTrial, .ref ht_kept, .int vt_spoken, .long vt_nowSeed])), (ht_bench, .inr (1, [.ref ht_bench_drops, .ref ht_bench_from, .ref ht_bench_to, .ref ht_bench_tires, .ref ht_bench_copies, .ref ht_bench_pages, .int vt_bench_size])), (ht_bench_drops, .inl (cI, 4, .inl vt_bench_drops)), (ht_bench_from, .inl (cI, 4, .inl vt_bench_from)), (ht_bench_to, .inl (cI, 4, .inl vt_bench_to)), (ht_bench_tires, .inl (cI, 4, .inl vt_bench_tires)), (ht_bench_copies, .inl (cI, 4, .inl vt_bench_copies)), (ht_bench_pages, .inl (cI, 4, .inl x6.2)), (ht_told, .inl (cI, 4, .inl vt_told))]) (w1 := []) hP hD [] [0, 1, 2, 3, 4, 5, 6, 7, 8] rfl rfl (by decide) (by decide) hk1 hFc hP1 hD1
            clear hP1 hK1 hD1 hPc hDc hFc hk1 hz1 hvm eth
            generalize H1 = H at hP hS ⊢
            have hP : va_P (dC, dI) vwCl [(ht, .inr (4, [.ref ht_text, .ref ht_bench, .ref ht_acts, .ref ht_drawers, .ref ht_told, .ref ht_pagesOfTrial, .ref ht_kept, .int vt_spoken, .long vt_nowSeed])), (ht_bench, .inr (1, [.ref ht_bench_drops, .ref ht_bench_from, .ref ht_bench_to, .ref ht_bench_tires, .ref ht_bench_copies, .ref ht_bench_pages, .int vt_bench_size])), (ht_bench_drops, .inl (cI, 4, .inl vt_bench_drops)), (ht_bench_from, .inl (cI, 4, .inl vt_bench_from)), (ht_bench_to, .inl (cI, 4, .inl vt_bench_to)), (ht_bench_tires, .inl (cI, 4, .inl vt_bench_tires)), (ht_bench_copies, .inl (cI, 4, .inl vt_bench_copies)), (ht_bench_pages, .inl (cI, 4, .inl x6.2)), (ht_told, .inl (cI, 4, .inl vt_told))] H := hP
            have hD : va_D A [(ht, .inr (4, [.ref ht_text, .ref ht_bench, .ref ht_acts, .ref ht_drawers, .ref ht_told, .ref ht_pagesOfTrial, .ref ht_kept, .int vt_spoken, .long vt_nowSeed])), (ht_bench, .inr (1, [.ref ht_bench_drops, .ref ht_bench_from, .ref ht_bench_to, .ref ht_bench_tires, .ref ht_bench_copies, .ref ht_bench_pages, .int vt_bench_size])), (ht_bench_drops, .inl (cI, 4, .inl vt_bench_drops)), (ht_bench_from, .inl (cI, 4, .inl vt_bench_from)), (ht_bench_to, .inl (cI, 4, .inl vt_bench_to)), (ht_bench_tires, .inl (cI, 4, .inl vt_bench_tires)), (ht_bench_copies, .inl (cI, 4, .inl vt_bench_copies)), (ht_bench_pages, .inl (cI, 4, .inl x6.2)), (ht_told, .inl (cI, 4, .inl vt_told))] := hD
            have he := Option.some.inj hf
            have hP9 := hP
            have hD9 := hD
            exact W.iret (v := x8) hx hb hr (fun t eth hW => ⟨⟨x8, x6.2, rfl, ⟨(congrArg Prod.fst he).symm, (congrArg Prod.snd he).symm⟩, by rw [eth]; exact hP9, va_K.moved hW.alike hK, hD9⟩, hS.F eth⟩) hS.2.2 dX5_least_38
    exact lp21 N x4 vt_bench_pages _ _ _ hP hD hS hl hf
  · replace hf := dg_t c2 hf
    refine lv_bipush (v := -2) hx hb dX5_least_8 (by decide) ?_
    have he := Option.some.inj hf
    have hP9 := hP
    have hD9 := hD
    exact W.iret (v := (-2:Int32)) hx hb hr (fun t eth hW => ⟨⟨(-2:Int32), vt_bench_pages, rfl, ⟨(congrArg Prod.fst he).symm, (congrArg Prod.snd he).symm⟩, by rw [eth]; exact hP9, va_K.moved hW.alike hK, hD9⟩, hS.F eth⟩) hS.2.2 dX5_least_10
theorem hd_X5_sure : yX5_sure.cls = RX5 ∧ yX5_sure.cls ≠ "java/lang/invoke/MethodHandle" ∧ yX5_sure.cls ≠ "java/lang/invoke/VarHandle" ∧ (parseMethodDescriptor yX5_sure.desc).map (fun d => d.parameters.length) = some 2 := by decide +kernel
abbrev rm_X5_sure : Room := { frames := 5, cells := 0, slots := 0, locals := 118 }
abbrev q_X5_sure (dC : Nat → ClassId) (dI : Nat → Nat → Nat) (cI cJ cZ : ClassId) (ht ht_text ht_bench ht_acts ht_drawers ht_told ht_pagesOfTrial ht_kept ht_bench_drops ht_bench_from ht_bench_to ht_bench_tires ht_bench_copies ht_bench_pages : Nat) (vt_spoken : Int32) (vt_nowSeed : Int64) (vt_bench_size : Int32) (vt_bench_drops : Nat → Int32) (vt_bench_from : Nat → Int32) (vt_bench_to : Nat → Int32) (vt_bench_tires : Nat → Int32) (vt_bench_copies : Nat → Int32) (vt_told : Nat → Int32) (R : Int32 × (Nat → Int32)) (A : Nat → Prop) : Array Value → State → Outcome → State → Prop := va_Qi (fun (r : Int32) (u : (Nat → Int32)) => R.1 = r ∧ R.2 = u) (fun (u : (Nat → Int32)) (t : State) => va_P (dC, dI) vwCl [(ht, .inr (4, [.ref ht_text, .ref ht_bench, .ref ht_acts, .ref ht_drawers, .ref ht_told, .ref ht_pagesOfTrial, .ref ht_kept, .int vt_spoken, .long vt_nowSeed])), (ht_bench, .inr (1, [.ref ht_bench_drops, .ref ht_bench_from, .ref ht_bench_to, .ref ht_bench_tires, .ref ht_bench_copies, .ref ht_bench_pages, .int vt_bench_size])), (ht_bench_drops, .inl (cI, 4, .inl vt_bench_drops)), (ht_bench_from, .inl (cI, 4, .inl vt_bench_from)), (ht_bench_to, .inl (cI, 4, .inl vt_bench_to)), (ht_bench_tires, .inl (cI, 4, .inl vt_bench_tires)), (ht_bench_copies, .inl (cI, 4, .inl vt_bench_copies)), (ht_bench_pages, .inl (cI, 4, .inl u)), (ht_told, .inl (cI, 4, .inl vt_told))] t.heap ∧ va_K (dC, dI) vwCl [(cI, .int), (cJ, .long), (cZ, .boolean)] t ∧ va_D A [(ht, .inr (4, [.ref ht_text, .ref ht_bench, .ref ht_acts, .ref ht_drawers, .ref ht_told, .ref ht_pagesOfTrial, .ref ht_kept, .int vt_spoken, .long vt_nowSeed])), (ht_bench, .inr (1, [.ref ht_bench_drops, .ref ht_bench_from, .ref ht_bench_to, .ref ht_bench_tires, .ref ht_bench_copies, .ref ht_bench_pages, .int vt_bench_size])), (ht_bench_drops, .inl (cI, 4, .inl vt_bench_drops)), (ht_bench_from, .inl (cI, 4, .inl vt_bench_from)), (ht_bench_to, .inl (cI, 4, .inl vt_bench_to)), (ht_bench_tires, .inl (cI, 4, .inl vt_bench_tires)), (ht_bench_copies, .inl (cI, 4, .inl vt_bench_copies)), (ht_bench_pages, .inl (cI, 4, .inl u)), (ht_told, .inl (cI, 4, .inl vt_told))]) A
set_option maxHeartbeats 4000000 in
set_option maxRecDepth 100000 in
theorem k_X5_sure (l : Launch) (dC : Nat → ClassId) (dI : Nat → Nat → Nat) (cI cJ cZ : ClassId) (sz : Nat) (ht ht_text ht_bench ht_acts ht_drawers ht_told ht_pagesOfTrial ht_kept ht_bench_drops ht_bench_from ht_bench_to ht_bench_tires ht_bench_copies ht_bench_pages : Nat) (a1 : Int32) (a2 : Int32) (vt_spoken : Int32) (vt_nowSeed : Int64) (vt_bench_size : Int32) (vt_bench_drops : Nat → Int32) (vt_bench_from : Nat → Int32) (vt_bench_to : Nat → Int32) (vt_bench_tires : Nat → Int32) (vt_bench_copies : Nat → Int32) (vt_bench_pages : Nat → Int32) (vt_told : Nat → Int32) (N : Nat) (R : Int32 × (Nat → Int32)) (hf : f_X5_sure N a1 a2 vt_bench_size vt_bench_drops vt_bench_from vt_bench_to vt_bench_tires vt_bench_copies vt_bench_pages vt_told = some R) : Met l yX5_sure wsX5_sure (rm_X5_sure) (va_Pc [.ref ht, .int a1, .int a2] (fun U => U.heap.size = sz ∧ va_P (dC, dI) vwCl [(ht, .inr (4, [.ref ht_text, .ref ht_bench, .ref ht_acts, .ref ht_drawers, .ref ht_told, .ref ht_pagesOfTrial, .ref ht_kept, .int vt_spoken, .long vt_nowSeed])), (ht_bench, .inr (1, [.ref ht_bench_drops, .ref ht_bench_from, .ref ht_bench_to, .ref ht_bench_tires, .ref ht_bench_copies, .ref ht_bench_pages, .int vt_bench_size])), (ht_bench_drops, .inl (cI, 4, .inl vt_bench_drops)), (ht_bench_from, .inl (cI, 4, .inl vt_bench_from)), (ht_bench_to, .inl (cI, 4, .inl vt_bench_to)), (ht_bench_tires, .inl (cI, 4, .inl vt_bench_tires)), (ht_bench_copies, .inl (cI, 4, .inl vt_bench_copies)), (ht_bench_pages, .inl (cI, 4, .inl vt_bench_pages)), (ht_told, .inl (cI, 4, .inl vt_told))] U.heap ∧ va_K (dC, dI) vwCl [(cI, .int), (cJ, .long), (cZ, .boolean)] U ∧ va_D (fun _ => True) [(ht, .inr (4, [.ref ht_text, .ref ht_bench, .ref ht_acts, .ref ht_drawers, .ref ht_told, .ref ht_pagesOfTrial, .ref ht_kept, .int vt_spoken, .long vt_nowSeed])), (ht_bench, .inr (1, [.ref ht_bench_drops, .ref ht_bench_from, .ref ht_bench_to, .ref ht_bench_tires, .ref ht_bench_copies, .ref ht_bench_pages, .int vt_bench_size])), (ht_bench_drops, .inl (cI, 4, .inl vt_bench_drops)), (ht_bench_from, .inl (cI, 4, .inl vt_bench_from)), (ht_bench_to, .inl (cI, 4, .inl vt_bench_to)), (ht_bench_tires, .inl (cI, 4, .inl vt_bench_tires)), (ht_bench_copies, .inl (cI, 4, .inl vt_bench_copies)), (ht_bench_pages, .inl (cI, 4, .inl vt_bench_pages)), (ht_told, .inl (cI, 4, .inl vt_told))])) (q_X5_sure dC dI cI cJ cZ ht ht_text ht_bench ht_acts ht_drawers ht_told ht_pagesOfTrial ht_kept ht_bench_drops ht_bench_from ht_bench_to ht_bench_tires ht_bench_copies ht_bench_pages vt_spoken vt_nowSeed vt_bench_size vt_bench_drops vt_bench_from vt_bench_to vt_bench_tires vt_bench_copies vt_told R (va_A [(ht, .inr (4, [.ref ht_text, .ref ht_bench, .ref ht_acts, .ref ht_drawers, .ref ht_told, .ref ht_pagesOfTrial, .ref ht_kept, .int vt_spoken, .long vt_nowSeed])), (ht_bench, .inr (1, [.ref ht_bench_drops, .ref ht_bench_from, .ref ht_bench_to, .ref ht_bench_tires, .ref ht_bench_copies, .ref ht_bench_pages, .int vt_bench_size])), (ht_bench_drops, .inl (cI, 4, .inl vt_bench_drops)), (ht_bench_from, .inl (cI, 4, .inl vt_bench_from)), (ht_bench_to, .inl (cI, 4, .inl vt_bench_to)), (ht_bench_tires, .inl (cI, 4, .inl vt_bench_tires)), (ht_bench_copies, .inl (cI, 4, .inl vt_bench_copies)), (ht_bench_pages, .inl (cI, 4, .inl vt_bench_pages)), (ht_told, .inl (cI, 4, .inl vt_told))] sz)) 0 0 (va_A [(ht, .inr (4, [.ref ht_text, .ref ht_bench, .ref ht_acts, .ref ht_drawers, .ref ht_told, .ref ht_pagesOfTrial, .ref ht_kept, .int vt_spoken, .long vt_nowSeed])), (ht_bench, .inr (1, [.ref ht_bench_drops, .ref ht_bench_from, .ref ht_bench_to, .ref ht_bench_tires, .ref ht_bench_copies, .ref ht_bench_pages, .int vt_bench_size])), (ht_bench_drops, .inl (cI, 4, .inl vt_bench_drops)), (ht_bench_from, .inl (cI, 4, .inl vt_bench_from)), (ht_bench_to, .inl (cI, 4, .inl vt_bench_to)), (ht_bench_tires, .inl (cI, 4, .inl vt_bench_tires)), (ht_bench_copies, .inl (cI, 4, .inl vt_bench_copies)), (ht_bench_pages, .inl (cI, 4, .inl vt_bench_pages)), (ht_told, .inl (cI, 4, .inl vt_told))] sz) := by
  refine Met.ofW (cc := cX5_sure) (maxL := 7) (ret := (some .int)) (by decide) rfl ?_
  intro p e s m args below meth c s₁ B hml hv
  obtain ⟨rfl, hsz, hP, hK, hD0⟩ := hv
  have hx := B.exec
  have hb := B.bytes
  have hr := B.returns
  have hts := atoms_spec (ws := wsX5_sure) B.pre
  have hown : s.vm.findClass RX5 = some m.cls := findClass_of_methodNamed B.named
  have hlocks := B.notSynchronized
  clear B
  subst hsz
  have hD := hD0.self (sz := s.heap.size)
  clear hD0
  generalize hAe : va_A [(ht, .inr (4, [.ref ht_text, .ref ht_bench, .ref ht_acts, .ref ht_drawers, .ref ht_told, .ref ht_pagesOfTrial, .ref ht_kept, .int vt_spoken, .long vt_nowSeed])), (ht_bench, .inr (1, [.ref ht_bench_drops, .ref ht_bench_from, .ref ht_bench_to, .ref ht_bench_tires, .ref ht_bench_copies, .ref ht_bench_pages, .int vt_bench_size])), (ht_bench_drops, .inl (cI, 4, .inl vt_bench_drops)), (ht_bench_from, .inl (cI, 4, .inl vt_bench_from)), (ht_bench_to, .inl (cI, 4, .inl vt_bench_to)), (ht_bench_tires, .inl (cI, 4, .inl vt_bench_tires)), (ht_bench_copies, .inl (cI, 4, .inl vt_bench_copies)), (ht_bench_pages, .inl (cI, 4, .inl vt_bench_pages)), (ht_told, .inl (cI, 4, .inl vt_told))] s.heap.size = A at hD ⊢
  have hA : ∀ q : Nat, s.heap.size ≤ q → A q := fun q h => by rw [← hAe]; exact Or.inr h
  clear hAe
  have hS : va_S A s.heap s.heap [] := va_S.rf
  have hl := lv_entry ([.ref ht, .int a1, .int a2]) (n := 7) (Nat.le_of_ble_eq_true rfl)
  rw [lg_entry_eq]
  generalize (lg_sl ([.ref ht, .int a1, .int a2]) ++ List.replicate (7 - (lg_sl ([.ref ht, .int a1, .int a2])).length) Slot.unset).toArray = ls at hl ⊢
  have hl : lv_has ls 7 [(0, .ref ht), (1, .int a1), (2, .int a2)] := hl
  unfold f_X5_sure at hf
  refine lv_iload_n hx hb dX5_sure_0 rfl (lv_at hl 1 rfl) ?_
  refine lv_iconst (v := 1) hx hb dX5_sure_1 (by decide) ?_
  obtain ⟨x1, hx1, hf⟩ := dg_bind hf
  have hPc : va_P (dC, dI) vwCl [] s.heap := hP.sub [] rfl
  have hDc : va_D A [] := hD.sub [] (by decide) rfl
  have hFc := va_free (wc := []) hD hS hA [] rfl
  refine va_calli (va_runS (As := [.int a1, .int (1:Int32)]) (rest := []) ⟨hx, hb, hml, hown, hts⟩ (k_X5_isLength l dC dI cI cJ cZ s.heap.size a1 (1:Int32) N x1 hx1) (va_cwS 2 hts gX5_sure_X5_isLength rfl rfl rfl hd_X5_isLength ⟨Nat.le_of_ble_eq_true rfl, Nat.le_of_ble_eq_true rfl⟩) ⟨blind_pc, pre_pc hPc hK hDc⟩ rfl rfl hl.1 rfl (lv_room (Nat.le_of_ble_eq_true rfl)) dX5_sure_2 ⟨Nat.zero_le _, Nat.zero_le _⟩) hS (fun q _ h => hFc q h) hFc (fun r u t H1 locs eth hvm hw hB hz1 hk1 hS => ?_)
  obtain ⟨hP1, hK1, hD1⟩ := hB
  rw [eth] at hP1
  subst hw
  obtain ⟨hP, hD⟩ := va_join (wr := [(ht, .inr (4, [.ref ht_text, .ref ht_bench, .ref ht_acts, .ref ht_drawers, .ref ht_told, .ref ht_pagesOfTrial, .ref ht_kept, .int vt_spoken, .long vt_nowSeed])), (ht_bench, .inr (1, [.ref ht_bench_drops, .ref ht_bench_from, .ref ht_bench_to, .ref ht_bench_tires, .ref ht_bench_copies, .ref ht_bench_pages, .int vt_bench_size])), (ht_bench_drops, .inl (cI, 4, .inl vt_bench_drops)), (ht_bench_from, .inl (cI, 4, .inl vt_bench_from)), (ht_bench_to, .inl (cI, 4, .inl vt_bench_to)), (ht_bench_tires, .inl (cI, 4, .inl vt_bench_tires)), (ht_bench_copies, .inl (cI, 4, .inl vt_bench_copies)), (ht_bench_pages, .inl (cI, 4, .inl vt_bench_pages)), (ht_told, .inl (cI, 4, .inl vt_told))]) (w1 := []) hP hD [] [0, 1, 2, 3, 4, 5, 6, 7, 8] rfl rfl (by decide) (by decide) hk1 hFc hP1 hD1
  clear hP1 hK1 hD1 hPc hDc hFc hk1 hz1 hvm eth
  generalize H1 = H at hP hS ⊢
  have hP : va_P (dC, dI) vwCl [(ht, .inr (4, [.ref ht_text, .ref ht_bench, .ref ht_acts, .ref ht_drawers, .ref ht_told, .ref ht_pagesOfTrial, .ref ht_kept, .int vt_spoken, .long vt_nowSeed])), (ht_bench, .inr (1, [.ref ht_bench_drops, .ref ht_bench_from, .ref ht_bench_to, .ref ht_bench_tires, .ref ht_bench_copies, .ref ht_bench_pages, .int vt_bench_size])), (ht_bench_drops, .inl (cI, 4, .inl vt_bench_drops)), (ht_bench_from, .inl (cI, 4, .inl vt_bench_from)), (ht_bench_to, .inl (cI, 4, .inl vt_bench_to)), (ht_bench_tires, .inl (cI, 4, .inl vt_bench_tires)), (ht_bench_copies, .inl (cI, 4, .inl vt_bench_copies)), (ht_bench_pages, .inl (cI, 4, .inl vt_bench_pages)), (ht_told, .inl (cI, 4, .inl vt_told))] H := hP
  have hD : va_D A [(ht, .inr (4, [.ref ht_text, .ref ht_bench, .ref ht_acts, .ref ht_drawers, .ref ht_told, .ref ht_pagesOfTrial, .ref ht_kept, .int vt_spoken, .long vt_nowSeed])), (ht_bench, .inr (1, [.ref ht_bench_drops, .ref ht_bench_from, .ref ht_bench_to, .ref ht_bench_tires, .ref ht_bench_copies, .ref ht_bench_pages, .int vt_bench_size])), (ht_bench_drops, .inl (cI, 4, .inl vt_bench_drops)), (ht_bench_from, .inl (cI, 4, .inl vt_bench_from)), (ht_bench_to, .inl (cI, 4, .inl vt_bench_to)), (ht_bench_tires, .inl (cI, 4, .inl vt_bench_tires)), (ht_bench_copies, .inl (cI, 4, .inl vt_bench_copies)), (ht_bench_pages, .inl (cI, 4, .inl vt_bench_pages)), (ht_told, .inl (cI, 4, .inl vt_told))] := hD
  refine lv_if_eq (tgt := 17) hx hb dX5_sure_5 (by decide) (fun c2 => ?_) (fun c2 => ?_)
  · replace hf := dg_t c2 hf
    refine lv_bipush (v := -2) hx hb dX5_sure_17 (by decide) ?_
    have he := Option.some.inj hf
    have hP9 := hP
    have hD9 := hD
    exact W.iret (v := (-2:Int32)) hx hb hr (fun t eth hW => ⟨⟨(-2:Int32), vt_bench_pages, rfl, ⟨(congrArg Prod.fst he).symm, (congrArg Prod.snd he).symm⟩, by rw [eth]; exact hP9, va_K.moved hW.alike hK, hD9⟩, hS.F eth⟩) hS.2.2 dX5_sure_19
  · replace hf := dg_f c2 hf
    refine lv_iload_n hx hb dX5_sure_8 rfl (lv_at hl 2 rfl) ?_
    refine lv_if_lt (tgt := 17) hx hb dX5_sure_9 (by decide) (fun c3 => ?_) (fun c3 => ?_)
    · replace hf := dg_t c3 hf
      refine lv_bipush (v := -2) hx hb dX5_sure_17 (by decide) ?_
      have he := Option.some.inj hf
      have hP9 := hP
      have hD9 := hD
      exact W.iret (v := (-2:Int32)) hx hb hr (fun t eth hW => ⟨⟨(-2:Int32), vt_bench_pages, rfl, ⟨(congrArg Prod.fst he).symm, (congrArg Prod.snd he).symm⟩, by rw [eth]; exact hP9, va_K.moved hW.alike hK, hD9⟩, hS.F eth⟩) hS.2.2 dX5_sure_19
    · replace hf := dg_f c3 hf
      refine lv_iload_n hx hb dX5_sure_12 rfl (lv_at hl 2 rfl) ?_
      refine lv_iload_n hx hb dX5_sure_13 rfl (lv_at hl 1 rfl) ?_
      refine lv_icmp_lt (tgt := 20) hx hb dX5_sure_14 (by decide) (fun c4 => ?_) (fun c4 => ?_)
      · replace hf := dg_t c4 hf
        refine lv_bipush (v := -9) hx hb dX5_sure_20 (by decide) ?_
        refine lv_istore_n (lv' := [(3, .int (-9:Int32)), (0, .ref ht), (1, .int a1), (2, .int a2)]) hx hb dX5_sure_22 rfl hl (by decide) rfl (fun ls hl => ?_)
        refine lv_iload_n hx hb dX5_sure_23 rfl (lv_at hl 2 rfl) ?_
        obtain ⟨x5, hx5, hf⟩ := dg_bind hf
        have hPc : va_P (dC, dI) vwCl [] H := hP.sub [] rfl
        have hDc : va_D A [] := hD.sub [] (by decide) rfl
        have hFc := va_free (wc := []) hD hS hA [] rfl
        refine va_calli (va_runS (As := [.int a1]) (rest := []) ⟨hx, hb, hml, hown, hts⟩ (k_X4_endOf l dC dI cI cJ cZ H.size a1 N x5 hx5) (va_cwS 1 hts gX5_sure_X4_endOf rfl rfl rfl hd_X4_endOf ⟨Nat.le_of_ble_eq_true rfl, Nat.le_of_ble_eq_true rfl⟩) ⟨blind_pc, pre_pc hPc hK hDc⟩ rfl rfl hl.1 rfl (lv_room (Nat.le_of_ble_eq_true rfl)) dX5_sure_24 ⟨Nat.zero_le _, Nat.zero_le _⟩) hS (fun q _ h => hFc q h) hFc (fun r u t H1 locs eth hvm hw hB hz1 hk1 hS => ?_)
        obtain ⟨hP1, hK1, hD1⟩ := hB
        rw [eth] at hP1
        subst hw
        obtain ⟨hP, hD⟩ := va_join (wr := [(ht, .inr (4, [.ref ht_text, .ref ht_bench, .ref ht_acts, .ref ht_drawers, .ref ht_told, .ref ht_pagesOfTrial, .ref ht_kept, .int vt_spoken, .long vt_nowSeed])), (ht_bench, .inr (1, [.ref ht_bench_drops, .ref ht_bench_from, .ref ht_bench_to, .ref ht_bench_tires, .ref ht_bench_copies, .ref ht_bench_pages, .int vt_bench_size])), (ht_bench_drops, .inl (cI, 4, .inl vt_bench_drops)), (ht_bench_from, .inl (cI, 4, .inl vt_bench_from)), (ht_bench_to, .inl (cI, 4, .inl vt_bench_to)), (ht_bench_tires, .inl (cI, 4, .inl vt_bench_tires)), (ht_bench_copies, .inl (cI, 4, .inl vt_bench_copies)), (ht_bench_pages, .inl (cI, 4, .inl vt_bench_pages)), (ht_told, .inl (cI, 4, .inl vt_told))]) (w1 := []) hP hD [] [0, 1, 2, 3, 4, 5, 6, 7, 8] rfl rfl (by decide) (by decide) hk1 hFc hP1 hD1
        clear hP1 hK1 hD1 hPc hDc hFc hk1 hz1 hvm eth
        generalize H1 = H at hP hS ⊢
        have hP : va_P (dC, dI) vwCl [(ht, .inr (4, [.ref ht_text, .ref ht_bench, .ref ht_acts, .ref ht_drawers, .ref ht_told, .ref ht_pagesOfTrial, .ref ht_kept, .int vt_spoken, .long vt_nowSeed])), (ht_bench, .inr (1, [.ref ht_bench_drops, .ref ht_bench_from, .ref ht_bench_to, .ref ht_bench_tires, .ref ht_bench_copies, .ref ht_bench_pages, .int vt_bench_size])), (ht_bench_drops, .inl (cI, 4, .inl vt_bench_drops)), (ht_bench_from, .inl (cI, 4, .inl vt_bench_from)), (ht_bench_to, .inl (cI, 4, .inl vt_bench_to)), (ht_bench_tires, .inl (cI, 4, .inl vt_bench_tires)), (ht_bench_copies, .inl (cI, 4, .inl vt_bench_copies)), (ht_bench_pages, .inl (cI, 4, .inl vt_bench_pages)), (ht_told, .inl (cI, 4, .inl vt_told))] H := hP
        have hD : va_D A [(ht, .inr (4, [.ref ht_text, .ref ht_bench, .ref ht_acts, .ref ht_drawers, .ref ht_told, .ref ht_pagesOfTrial, .ref ht_kept, .int vt_spoken, .long vt_nowSeed])), (ht_bench, .inr (1, [.ref ht_bench_drops, .ref ht_bench_from, .ref ht_bench_to, .ref ht_bench_tires, .ref ht_bench_copies, .ref ht_bench_pages, .int vt_bench_size])), (ht_bench_drops, .inl (cI, 4, .inl vt_bench_drops)), (ht_bench_from, .inl (cI, 4, .inl vt_bench_from)), (ht_bench_to, .inl (cI, 4, .inl vt_bench_to)), (ht_bench_tires, .inl (cI, 4, .inl vt_bench_tires)), (ht_bench_copies, .inl (cI, 4, .inl vt_bench_copies)), (ht_bench_pages, .inl (cI, 4, .inl vt_bench_pages)), (ht_told, .inl (cI, 4, .inl vt_told))] := hD
        refine lv_istore (lv' := [(4, .int x5), (3, .int (-9:Int32)), (0, .ref ht), (1, .int a1), (2, .int a2)]) hx hb dX5_sure_27 hl (by decide) rfl (fun ls hl => ?_)
        refine lv_iload_n hx hb dX5_sure_29 rfl (lv_at hl 3 rfl) ?_
        obtain ⟨x6, hx6, hf⟩ := dg_bind hf
        have hPc : va_P (dC, dI) vwCl [] H := hP.sub [] rfl
        have hDc : va_D A [] := hD.sub [] (by decide) rfl
        have hFc := va_free (wc := []) hD hS hA [] rfl
        refine va_calli (va_runS (As := [.int a1]) (rest := []) ⟨hx, hb, hml, hown, hts⟩ (k_X4_firstOf l dC dI cI cJ cZ H.size a1 N x6 hx6) (va_cwS 1 hts gX5_sure_X4_firstOf rfl rfl rfl hd_X4_firstOf ⟨Nat.le_of_ble_eq_true rfl, Nat.le_of_ble_eq_true rfl⟩) ⟨blind_pc, pre_pc hPc hK hDc⟩ rfl rfl hl.1 rfl (lv_room (Nat.le_of_ble_eq_true rfl)) dX5_sure_30 ⟨Nat.zero_le _, Nat.zero_le _⟩) hS (fun q _ h => hFc q h) hFc (fun r u t H1 locs eth hvm hw hB hz1 hk1 hS => ?_)
        obtain ⟨hP1, hK1, hD1⟩ := hB
        rw [eth] at hP1
        subst hw
        obtain ⟨hP, hD⟩ := va_join (wr := [(ht, .inr (4, [.ref ht_text, .ref ht_bench, .ref ht_acts, .ref ht_drawers, .ref ht_told, .ref ht_pagesOfTrial, .ref ht_kept, .int vt_spoken, .long vt_nowSeed])), (ht_bench, .inr (1, [.ref ht_bench_drops, .ref ht_bench_from, .ref ht_bench_to, .ref ht_bench_tires, .ref ht_bench_copies, .ref ht_bench_pages, .int vt_bench_size])), (ht_bench_drops, .inl (cI, 4, .inl vt_bench_drops)), (ht_bench_from, .inl (cI, 4, .inl vt_bench_from)), (ht_bench_to, .inl (cI, 4, .inl vt_bench_to)), (ht_bench_tires, .inl (cI, 4, .inl vt_bench_tires)), (ht_bench_copies, .inl (cI, 4, .inl vt_bench_copies)), (ht_bench_pages, .inl (cI, 4, .inl vt_bench_pages)), (ht_told, .inl (cI, 4, .inl vt_told))]) (w1 := []) hP hD [] [0, 1, 2, 3, 4, 5, 6, 7, 8] rfl rfl (by decide) (by decide) hk1 hFc hP1 hD1
        clear hP1 hK1 hD1 hPc hDc hFc hk1 hz1 hvm eth
        generalize H1 = H at hP hS ⊢
        have hP : va_P (dC, dI) vwCl [(ht, .inr (4, [.ref ht_text, .ref ht_bench, .ref ht_acts, .ref ht_drawers, .ref ht_told, .ref ht_pagesOfTrial, .ref ht_kept, .int vt_spoken, .long vt_nowSeed])), (ht_bench, .inr (1, [.ref ht_bench_drops, .ref ht_bench_from, .ref ht_bench_to, .ref ht_bench_tires, .ref ht_bench_copies, .ref ht_bench_pages, .int vt_bench_size])), (ht_bench_drops, .inl (cI, 4, .inl vt_bench_drops)), (ht_bench_from, .inl (cI, 4, .inl vt_bench_from)), (ht_bench_to, .inl (cI, 4, .inl vt_bench_to)), (ht_bench_tires, .inl (cI, 4, .inl vt_bench_tires)), (ht_bench_copies, .inl (cI, 4, .inl vt_bench_copies)), (ht_bench_pages, .inl (cI, 4, .inl vt_bench_pages)), (ht_told, .inl (cI, 4, .inl vt_told))] H := hP
        have hD : va_D A [(ht, .inr (4, [.ref ht_text, .ref ht_bench, .ref ht_acts, .ref ht_drawers, .ref ht_told, .ref ht_pagesOfTrial, .ref ht_kept, .int vt_spoken, .long vt_nowSeed])), (ht_bench, .inr (1, [.ref ht_bench_drops, .ref ht_bench_from, .ref ht_bench_to, .ref ht_bench_tires, .ref ht_bench_copies, .ref ht_bench_pages, .int vt_bench_size])), (ht_bench_drops, .inl (cI, 4, .inl vt_bench_drops)), (ht_bench_from, .inl (cI, 4, .inl vt_bench_from)), (ht_bench_to, .inl (cI, 4, .inl vt_bench_to)), (ht_bench_tires, .inl (cI, 4, .inl vt_bench_tires)), (ht_bench_copies, .inl (cI, 4, .inl vt_bench_copies)), (ht_bench_pages, .inl (cI, 4, .inl vt_bench_pages)), (ht_told, .inl (cI, 4, .inl vt_told))] := hD
        refine lv_istore (lv' := [(5, .int x6), (4, .int x5), (3, .int (-9:Int32)), (0, .ref ht), (1, .int a1), (2, .int a2)]) hx hb dX5_sure_33 hl (by decide) rfl (fun ls hl => ?_)
        have ex35 : ∀ (z3_35 : Int32) (z5_35 : Int32) (zvt_bench_pages_35 : (Nat → Int32)) (H : Heap) (locs : List Loc) (ls : Array Slot), va_P (dC, dI) vwCl [(ht, .inr (4, [.ref ht_text, .ref ht_bench, .ref ht_acts, .ref ht_drawers, .ref ht_told, .ref ht_pagesOfTrial, .ref ht_kept, .int vt_spoken, .long vt_nowSeed])), (ht_bench, .inr (1, [.ref ht_bench_drops, .ref ht_bench_from, .ref ht_bench_to, .ref ht_bench_tires, .ref ht_bench_copies, .ref ht_bench_pages, .int vt_bench_size])), (ht_bench_drops, .inl (cI, 4, .inl vt_bench_drops)), (ht_bench_from, .inl (cI, 4, .inl vt_bench_from)), (ht_bench_to, .inl (cI, 4, .inl vt_bench_to)), (ht_bench_tires, .inl (cI, 4, .inl vt_bench_tires)), (ht_bench_copies, .inl (cI, 4, .inl vt_bench_copies)), (ht_bench_pages, .inl (cI, 4, .inl zvt_bench_pages_35)), (ht_told, .inl (cI, 4, .inl vt_told))] H → va_D A [(ht, .inr (4, [.ref ht_text, .ref ht_bench, .ref ht_acts, .ref ht_drawers, .ref ht_told, .ref ht_pagesOfTrial, .ref ht_kept, .int vt_spoken, .long vt_nowSeed])), (ht_bench, .inr (1, [.ref ht_bench_drops, .ref ht_bench_from, .ref ht_bench_to, .ref ht_bench_tires, .ref ht_bench_copies, .ref ht_bench_pages, .int vt_bench_size])), (ht_bench_drops, .inl (cI, 4, .inl vt_bench_drops)), (ht_bench_from, .inl (cI, 4, .inl vt_bench_from)), (ht_bench_to, .inl (cI, 4, .inl vt_bench_to)), (ht_bench_tires, .inl (cI, 4, .inl vt_bench_tires)), (ht_bench_copies, .inl (cI, 4, .inl vt_bench_copies)), (ht_bench_pages, .inl (cI, 4, .inl zvt_bench_pages_35)), (ht_told, .inl (cI, 4, .inl vt_told))] → va_S A s.heap H locs → lv_has ls 7 [(5, .int z5_35), (4, .int x5), (3, .int z3_35), (0, .ref ht), (1, .int a1), (2, .int a2)] → (some (z3_35, zvt_bench_pages_35)) = some R → W p l e (rm_X5_sure) s m ([.ref ht, .int a1, .int a2] : List Value).toArray below meth c H locs 0 0 (MQ below (q_X5_sure dC dI cI cJ cZ ht ht_text ht_bench ht_acts ht_drawers ht_told ht_pagesOfTrial ht_kept ht_bench_drops ht_bench_from ht_bench_to ht_bench_tires ht_bench_copies ht_bench_pages vt_spoken vt_nowSeed vt_bench_size vt_bench_drops vt_bench_from vt_bench_to vt_bench_tires vt_bench_copies vt_told R A) ([.ref ht, .int a1, .int a2] : List Value).toArray s 0 0 A) (F0 m 83 ls []) := by
          intro z3_35 z5_35 zvt_bench_pages_35 H locs ls hP hD hS hl hf
          refine lv_iload_n hx hb dX5_sure_83 rfl (lv_at hl 2 rfl) ?_
          have he := Option.some.inj hf
          have hP9 := hP
          have hD9 := hD
          exact W.iret (v := z3_35) hx hb hr (fun t eth hW => ⟨⟨z3_35, zvt_bench_pages_35, rfl, ⟨(congrArg Prod.fst he).symm, (congrArg Prod.snd he).symm⟩, by rw [eth]; exact hP9, va_K.moved hW.alike hK, hD9⟩, hS.F eth⟩) hS.2.2 dX5_sure_84
        have lp35 : ∀ (n35 : Nat) (y3_35 : Int32) (y5_35 : Int32) (yvt_bench_pages_35 : (Nat → Int32)) (H : Heap) (locs : List Loc) (ls : Array Slot), va_P (dC, dI) vwCl [(ht, .inr (4, [.ref ht_text, .ref ht_bench, .ref ht_acts, .ref ht_drawers, .ref ht_told, .ref ht_pagesOfTrial, .ref ht_kept, .int vt_spoken, .long vt_nowSeed])), (ht_bench, .inr (1, [.ref ht_bench_drops, .ref ht_bench_from, .ref ht_bench_to, .ref ht_bench_tires, .ref ht_bench_copies, .ref ht_bench_pages, .int vt_bench_size])), (ht_bench_drops, .inl (cI, 4, .inl vt_bench_drops)), (ht_bench_from, .inl (cI, 4, .inl vt_bench_from)), (ht_bench_to, .inl (cI, 4, .inl vt_bench_to)), (ht_bench_tires, .inl (cI, 4, .inl vt_bench_tires)), (ht_bench_copies, .inl (cI, 4, .inl vt_bench_copies)), (ht_bench_pages, .inl (cI, 4, .inl yvt_bench_pages_35)), (ht_told, .inl (cI, 4, .inl vt_told))] H → va_D A [(ht, .inr (4, [.ref ht_text, .ref ht_bench, .ref ht_acts, .ref ht_drawers, .ref ht_told, .ref ht_pagesOfTrial, .ref ht_kept, .int vt_spoken, .long vt_nowSeed])), (ht_bench, .inr (1, [.ref ht_bench_drops, .ref ht_bench_from, .ref ht_bench_to, .ref ht_bench_tires, .ref ht_bench_copies, .ref ht_bench_pages, .int vt_bench_size])), (ht_bench_drops, .inl (cI, 4, .inl vt_bench_drops)), (ht_bench_from, .inl (cI, 4, .inl vt_bench_from)), (ht_bench_to, .inl (cI, 4, .inl vt_bench_to)), (ht_bench_tires, .inl (cI, 4, .inl vt_bench_tires)), (ht_bench_copies, .inl (cI, 4, .inl vt_bench_copies)), (ht_bench_pages, .inl (cI, 4, .inl yvt_bench_pages_35)), (ht_told, .inl (cI, 4, .inl vt_told))] → va_S A s.heap H locs → lv_has ls 7 [(5, .int y5_35), (4, .int x5), (3, .int y3_35), (0, .ref ht), (1, .int a1), (2, .int a2)] → f_X5_sure_35 N a2 vt_bench_size vt_bench_drops vt_bench_from vt_bench_to vt_bench_tires vt_bench_copies vt_told x5 (fun z3_35 z5_35 zvt_bench_pages_35 => some (z3_35, zvt_bench_pages_35)) n35 y3_35 y5_35 yvt_bench_pages_35 = some R → W p l e (rm_X5_sure) s m ([.ref ht, .int a1, .int a2] : List Value).toArray below meth c H locs 0 0 (MQ below (q_X5_sure dC dI cI cJ cZ ht ht_text ht_bench ht_acts ht_drawers ht_told ht_pagesOfTrial ht_kept ht_bench_drops ht_bench_from ht_bench_to ht_bench_tires ht_bench_copies ht_bench_pages vt_spoken vt_nowSeed vt_bench_size vt_bench_drops vt_bench_from vt_bench_to vt_bench_tires vt_bench_copies vt_told R A) ([.ref ht, .int a1, .int a2] : List Value).toArray s 0 0 A) (F0 m 35 ls []) := by
          intro n35
          induction n35 with
          | zero => intro y3_35 y5_35 yvt_bench_pages_35 H locs ls hP hD hS hl hf; rw [f_X5_sure_35] at hf; cases hf
          | succ n35 ih35 =>
            intro y3_35 y5_35 yvt_bench_pages_35 H locs ls hP hD hS hl hf
            rw [f_X5_sure_35] at hf
            refine lv_iload hx hb dX5_sure_35 (lv_at hl 0 rfl) ?_
            refine lv_iload hx hb dX5_sure_37 (lv_at hl 1 rfl) ?_
            refine lv_icmp_ge (tgt := 83) hx hb dX5_sure_39 (by decide) (fun c7 => ?_) (fun c7 => ?_)
            · replace hf := dg_t c7 hf
              exact ex35 y3_35 y5_35 yvt_bench_pages_35 _ _ _ hP hD hS (lv_sub hl [0, 1, 2, 3, 4, 5] rfl) hf
            · replace hf := dg_f c7 hf
              refine lv_aload_n hx hb dX5_sure_42 rfl (lv_at hl 3 rfl) ?_
              refine lv_iload hx hb dX5_sure_43 (lv_at hl 0 rfl) ?_
              obtain ⟨x8, hx8, hf⟩ := dg_bind hf
              have hPc : va_P (dC, dI) vwCl [(ht, .inr (4, [.ref ht_text, .ref ht_bench, .ref ht_acts, .ref ht_drawers, .ref ht_told, .ref ht_pagesOfTrial, .ref ht_kept, .int vt_spoken, .long vt_nowSeed])), (ht_bench, .inr (1, [.ref ht_bench_drops, .ref ht_bench_from, .ref ht_bench_to, .ref ht_bench_tires, .ref ht_bench_copies, .ref ht_bench_pages, .int vt_bench_size])), (ht_bench_drops, .inl (cI, 4, .inl vt_bench_drops)), (ht_bench_from, .inl (cI, 4, .inl vt_bench_from)), (ht_bench_to, .inl (cI, 4, .inl vt_bench_to)), (ht_bench_tires, .inl (cI, 4, .inl vt_bench_tires)), (ht_bench_copies, .inl (cI, 4, .inl vt_bench_copies)), (ht_bench_pages, .inl (cI, 4, .inl yvt_bench_pages_35)), (ht_told, .inl (cI, 4, .inl vt_told))] H := hP.sub [0, 1, 2, 3, 4, 5, 6, 7, 8] rfl
              have hDc : va_D A [(ht, .inr (4, [.ref ht_text, .ref ht_bench, .ref ht_acts, .ref ht_drawers, .ref ht_told, .ref ht_pagesOfTrial, .ref ht_kept, .int vt_spoken, .long vt_nowSeed])), (ht_bench, .inr (1, [.ref ht_bench_drops, .ref ht_bench_from, .ref ht_bench_to, .ref ht_bench_tires, .ref ht_bench_copies, .ref ht_bench_pages, .int vt_bench_size])), (ht_bench_drops, .inl (cI, 4, .inl vt_bench_drops)), (ht_bench_from, .inl (cI, 4, .inl vt_bench_from)), (ht_bench_to, .inl (cI, 4, .inl vt_bench_to)), (ht_bench_tires, .inl (cI, 4, .inl vt_bench_tires)), (ht_bench_copies, .inl (cI, 4, .inl vt_bench_copies)), (ht_bench_pages, .inl (cI, 4, .inl yvt_bench_pages_35)), (ht_told, .inl (cI, 4, .inl vt_told))] := hD.sub [0, 1, 2, 3, 4, 5, 6, 7, 8] (by decide) rfl
              have hFc := va_free (wc := [(ht, .inr (4, [.ref ht_text, .ref ht_bench, .ref ht_acts, .ref ht_drawers, .ref ht_told, .ref ht_pagesOfTrial, .ref ht_kept, .int vt_spoken, .long vt_nowSeed])), (ht_bench, .inr (1, [.ref ht_bench_drops, .ref ht_bench_from, .ref ht_bench_to, .ref ht_bench_tires, .ref ht_bench_copies, .ref ht_bench_pages, .int vt_bench_size])), (ht_bench_drops, .inl (cI, 4, .inl vt_bench_drops)), (ht_bench_from, .inl (cI, 4, .inl vt_bench_from)), (ht_bench_to, .inl (cI, 4, .inl vt_bench_to)), (ht_bench_tires, .inl (cI, 4, .inl vt_bench_tires)), (ht_bench_copies, .inl (cI, 4, .inl vt_bench_copies)), (ht_bench_pages, .inl (cI, 4, .inl yvt_bench_pages_35)), (ht_told, .inl (cI, 4, .inl vt_told))]) hD hS hA [0, 1, 2, 3, 4, 5, 6, 7, 8] rfl
              refine va_calli (va_runV (As := [.int y5_35]) (rest := []) ⟨hx, hb, hml, hown, hts⟩ (k_X5_isAsTold l dC dI cI cJ cZ H.size ht ht_text ht_bench ht_acts ht_drawers ht_told ht_pagesOfTrial ht_kept ht_bench_drops ht_bench_from ht_bench_to ht_bench_tires ht_bench_copies ht_bench_pages y5_35 vt_spoken vt_nowSeed vt_bench_size vt_bench_drops vt_bench_from vt_bench_to vt_bench_tires vt_bench_copies yvt_bench_pages_35 vt_told N x8 hx8) (cwV 1 hts gX5_sure_X5_isAsTold rfl rfl rfl hd_X5_isAsTold ⟨Nat.le_of_ble_eq_true rfl, Nat.le_of_ble_eq_true rfl⟩) ⟨blind_pc, va_recv hK hPc (ci := 4) (q0 := 0) rfl rfl, pre_pc hPc hK hDc⟩ rfl rfl hl.1 rfl (lv_room (Nat.le_of_ble_eq_true rfl)) dX5_sure_45 ⟨Nat.zero_le _, Nat.zero_le _⟩) hS (fun q _ h => hFc q h) hFc (fun r u t H1 locs eth hvm hw hB hz1 hk1 hS => ?_)
              obtain ⟨hP1, hK1, hD1⟩ := hB
              rw [eth] at hP1
              obtain ⟨hw, hw2⟩ := hw
              subst hw; subst hw2
              obtain ⟨hP, hD⟩ := va_join (wr := []) (w1 := [(ht, .inr (4, [.ref ht_text, .ref ht_bench, .ref ht_acts, .ref ht_drawers, .ref ht_told, .ref ht_pagesOfTrial, .ref ht_kept, .int vt_spoken, .long vt_nowSeed])), (ht_bench, .inr (1, [.ref ht_bench_drops, .ref ht_bench_from, .ref ht_bench_to, .ref ht_bench_tires, .ref ht_bench_copies, .ref ht_bench_pages, .int vt_bench_size])), (ht_bench_drops, .inl (cI, 4, .inl vt_bench_drops)), (ht_bench_from, .inl (cI, 4, .inl vt_bench_from)), (ht_bench_to, .inl (cI, 4, .inl vt_bench_to)), (ht_bench_tires, .inl (cI, 4, .inl vt_bench_tires)), (ht_bench_copies, .inl (cI, 4, .inl vt_bench_copies)), (ht_bench_pages, .inl (cI, 4, .inl x8.2)), (ht_told, .inl (cI, 4, .inl vt_told))]) hP hD [0, 1, 2, 3, 4, 5, 6, 7, 8] [] rfl rfl (by decide) (by decide) hk1 hFc hP1 hD1
              clear hP1 hK1 hD1 hPc hDc hFc hk1 hz1 hvm eth
              generalize H1 = H at hP hS ⊢
              have hP : va_P (dC, dI) vwCl [(ht, .inr (4, [.ref ht_text, .ref ht_bench, .ref ht_acts, .ref ht_drawers, .ref ht_told, .ref ht_pagesOfTrial, .ref ht_kept, .int vt_spoken, .long vt_nowSeed])), (ht_bench, .inr (1, [.ref ht_bench_drops, .ref ht_bench_from, .ref ht_bench_to, .ref ht_bench_tires, .ref ht_bench_copies, .ref ht_bench_pages, .int vt_bench_size])), (ht_bench_drops, .inl (cI, 4, .inl vt_bench_drops)), (ht_bench_from, .inl (cI, 4, .inl vt_bench_from)), (ht_bench_to, .inl (cI, 4, .inl vt_bench_to)), (ht_bench_tires, .inl (cI, 4, .inl vt_bench_tires)), (ht_bench_copies, .inl (cI, 4, .inl vt_bench_copies)), (ht_bench_pages, .inl (cI, 4, .inl x8.2)), (ht_told, .inl (cI, 4, .inl vt_told))] H := hP
              have hD : va_D A [(ht, .inr (4, [.ref ht_text, .ref ht_bench, .ref ht_acts, .ref ht_drawers, .ref ht_told, .ref ht_pagesOfTrial, .ref ht_kept, .int vt_spoken, .long vt_nowSeed])), (ht_bench, .inr (1, [.ref ht_bench_drops, .ref ht_bench_from, .ref ht_bench_to, .ref ht_bench_tires, .ref ht_bench_copies, .ref ht_bench_pages, .int vt_bench_size])), (ht_bench_drops, .inl (cI, 4, .inl vt_bench_drops)), (ht_bench_from, .inl (cI, 4, .inl vt_bench_from)), (ht_bench_to, .inl (cI, 4, .inl vt_bench_to)), (ht_bench_tires, .inl (cI, 4, .inl vt_bench_tires)), (ht_bench_copies, .inl (cI, 4, .inl vt_bench_copies)), (ht_bench_pages, .inl (cI, 4, .inl x8.2)), (ht_told, .inl (cI, 4, .inl vt_told))] := hD
              refine lv_if_eq (tgt := 77) hx hb dX5_sure_48 (by decide) (fun c9 => ?_) (fun c9 => ?_)
              · replace hf := dg_t c9 hf
                refine lv_iinc (v := (y5_35 + (1:Int32))) (lv' := [(5, .int (y5_35 + (1:Int32))), (4, .int x5), (3, .int y3_35), (0, .ref ht), (1, .int a1), (2, .int a2)]) hx hb dX5_sure_77 hl (k := 0) rfl (by first | rfl | decide) (by decide) rfl (fun ls hl => ?_)
                refine lv_goto (tgt := 35) hx hb dX5_sure_80 (by decide) ?_
                exact ih35 y3_35 (y5_35 + (1:Int32)) x8.2 _ _ _ hP hD hS (lv_sub hl [0, 1, 2, 3, 4, 5] rfl) hf
              · replace hf := dg_f c9 hf
                refine lv_iload hx hb dX5_sure_51 (lv_at hl 0 rfl) ?_
                refine lv_iload_n hx hb dX5_sure_53 rfl (lv_at hl 5 rfl) ?_
                obtain ⟨x10, hx10, hf⟩ := dg_bind hf
                have hPc : va_P (dC, dI) vwCl [] H := hP.sub [] rfl
                have hDc : va_D A [] := hD.sub [] (by decide) rfl
                have hFc := va_free (wc := []) hD hS hA [] rfl
                refine va_calli (va_runS (As := [.int y5_35, .int a2]) (rest := []) ⟨hx, hb, hml, hown, hts⟩ (k_X4_wordOrNone l dC dI cI cJ cZ H.size y5_35 a2 N x10 hx10) (va_cwS 2 hts gX5_sure_X4_wordOrNone rfl rfl rfl hd_X4_wordOrNone ⟨Nat.le_of_ble_eq_true rfl, Nat.le_of_ble_eq_true rfl⟩) ⟨blind_pc, pre_pc hPc hK hDc⟩ rfl rfl hl.1 rfl (lv_room (Nat.le_of_ble_eq_true rfl)) dX5_sure_54 ⟨Nat.zero_le _, Nat.zero_le _⟩) hS (fun q _ h => hFc q h) hFc (fun r u t H1 locs eth hvm hw hB hz1 hk1 hS => ?_)
                obtain ⟨hP1, hK1, hD1⟩ := hB
                rw [eth] at hP1
                subst hw
                obtain ⟨hP, hD⟩ := va_join (wr := [(ht, .inr (4, [.ref ht_text, .ref ht_bench, .ref ht_acts, .ref ht_drawers, .ref ht_told, .ref ht_pagesOfTrial, .ref ht_kept, .int vt_spoken, .long vt_nowSeed])), (ht_bench, .inr (1, [.ref ht_bench_drops, .ref ht_bench_from, .ref ht_bench_to, .ref ht_bench_tires, .ref ht_bench_copies, .ref ht_bench_pages, .int vt_bench_size])), (ht_bench_drops, .inl (cI, 4, .inl vt_bench_drops)), (ht_bench_from, .inl (cI, 4, .inl vt_bench_from)), (ht_bench_to, .inl (cI, 4, .inl vt_bench_to)), (ht_bench_tires, .inl (cI, 4, .inl vt_bench_tires)), (ht_bench_copies, .inl (cI, 4, .inl vt_bench_copies)), (ht_bench_pages, .inl (cI, 4, .inl x8.2)), (ht_told, .inl (cI, 4, .inl vt_told))]) (w1 := []) hP hD [] [0, 1, 2, 3, 4, 5, 6, 7, 8] rfl rfl (by decide) (by decide) hk1 hFc hP1 hD1
                clear hP1 hK1 hD1 hPc hDc hFc hk1 hz1 hvm eth
                generalize H1 = H at hP hS ⊢
                have hP : va_P (dC, dI) vwCl [(ht, .inr (4, [.ref ht_text, .ref ht_bench, .ref ht_acts, .ref ht_drawers, .ref ht_told, .ref ht_pagesOfTrial, .ref ht_kept, .int vt_spoken, .long vt_nowSeed])), (ht_bench, .inr (1, [.ref ht_bench_drops, .ref ht_bench_from, .ref ht_bench_to, .ref ht_bench_tires, .ref ht_bench_copies, .ref ht_bench_pages, .int vt_bench_size])), (ht_bench_drops, .inl (cI, 4, .inl vt_bench_drops)), (ht_bench_from, .inl (cI, 4, .inl vt_bench_from)), (ht_bench_to, .inl (cI, 4, .inl vt_bench_to)), (ht_bench_tires, .inl (cI, 4, .inl vt_bench_tires)), (ht_bench_copies, .inl (cI, 4, .inl vt_bench_copies)), (ht_bench_pages, .inl (cI, 4, .inl x8.2)), (ht_told, .inl (cI, 4, .inl vt_told))] H := hP
                have hD : va_D A [(ht, .inr (4, [.ref ht_text, .ref ht_bench, .ref ht_acts, .ref ht_drawers, .ref ht_told, .ref ht_pagesOfTrial, .ref ht_kept, .int vt_spoken, .long vt_nowSeed])), (ht_bench, .inr (1, [.ref ht_bench_drops, .ref ht_bench_from, .ref ht_bench_to, .ref ht_bench_tires, .ref ht_bench_copies, .ref ht_bench_pages, .int vt_bench_size])), (ht_bench_drops, .inl (cI, 4, .inl vt_bench_drops)), (ht_bench_from, .inl (cI, 4, .inl vt_bench_from)), (ht_bench_to, .inl (cI, 4, .inl vt_bench_to)), (ht_bench_tires, .inl (cI, 4, .inl vt_bench_tires)), (ht_bench_copies, .inl (cI, 4, .inl vt_bench_copies)), (ht_bench_pages, .inl (cI, 4, .inl x8.2)), (ht_told, .inl (cI, 4, .inl vt_told))] := hD
                refine lv_istore (lv' := [(6, .int x10), (5, .int y5_35), (4, .int x5), (3, .int y3_35), (0, .ref ht), (1, .int a1), (2, .int a2)]) hx hb dX5_sure_57 hl (by decide) rfl (fun ls hl => ?_)
                refine lv_iload_n hx hb dX5_sure_59 rfl (lv_at hl 3 rfl) ?_
                refine lv_bipush (v := -9) hx hb dX5_sure_60 (by decide) ?_
                refine lv_icmp_eq (tgt := 74) hx hb dX5_sure_62 (by decide) (fun c11 => ?_) (fun c11 => ?_)
                · replace hf := dg_t c11 hf
                  refine lv_iload hx hb dX5_sure_74 (lv_at hl 0 rfl) ?_
                  refine lv_istore_n (lv' := [(3, .int x10), (6, .int x10), (5, .int y5_35), (4, .int x5), (0, .ref ht), (1, .int a1), (2, .int a2)]) hx hb dX5_sure_76 rfl hl (by decide) rfl (fun ls hl => ?_)
                  refine lv_iinc (v := (y5_35 + (1:Int32))) (lv' := [(5, .int (y5_35 + (1:Int32))), (3, .int x10), (6, .int x10), (4, .int x5), (0, .ref ht), (1, .int a1), (2, .int a2)]) hx hb dX5_sure_77 hl (k := 2) rfl (by first | rfl | decide) (by decide) rfl (fun ls hl => ?_)
                  refine lv_goto (tgt := 35) hx hb dX5_sure_80 (by decide) ?_
                  exact ih35 x10 (y5_35 + (1:Int32)) x8.2 _ _ _ hP hD hS (lv_sub hl [0, 3, 1, 4, 5, 6] rfl) hf
                · replace hf := dg_f c11 hf
                  refine lv_iload_n hx hb dX5_sure_65 rfl (lv_at hl 3 rfl) ?_
                  refine lv_iload hx hb dX5_sure_66 (lv_at hl 0 rfl) ?_
                  refine lv_icmp_eq (tgt := 74) hx hb dX5_sure_68 (by decide) (fun c12 => ?_) (fun c12 => ?_)
                  · replace hf := dg_t c12 hf
                    refine lv_iload hx hb dX5_sure_74 (lv_at hl 0 rfl) ?_
                    refine lv_istore_n (lv' := [(3, .int x10), (6, .int x10), (5, .int y5_35), (4, .int x5), (0, .ref ht), (1, .int a1), (2, .int a2)]) hx hb dX5_sure_76 rfl hl (by decide) rfl (fun ls hl => ?_)
                    refine lv_iinc (v := (y5_35 + (1:Int32))) (lv' := [(5, .int (y5_35 + (1:Int32))), (3, .int x10), (6, .int x10), (4, .int x5), (0, .ref ht), (1, .int a1), (2, .int a2)]) hx hb dX5_sure_77 hl (k := 2) rfl (by first | rfl | decide) (by decide) rfl (fun ls hl => ?_)
                    refine lv_goto (tgt := 35) hx hb dX5_sure_80 (by decide) ?_
                    exact ih35 x10 (y5_35 + (1:Int32)) x8.2 _ _ _ hP hD hS (lv_sub hl [0, 3, 1, 4, 5, 6] rfl) hf
                  · replace hf := dg_f c12 hf
                    refine lv_bipush (v := -9) hx hb dX5_sure_71 (by decide) ?_
                    have he := Option.some.inj hf
                    have hP9 := hP
                    have hD9 := hD
                    exact W.iret (v := (-9:Int32)) hx hb hr (fun t eth hW => ⟨⟨(-9:Int32), x8.2, rfl, ⟨(congrArg Prod.fst he).symm, (congrArg Prod.snd he).symm⟩, by rw [eth]; exact hP9, va_K.moved hW.alike hK, hD9⟩, hS.F eth⟩) hS.2.2 dX5_sure_73
        exact lp35 N (-9:Int32) x6 vt_bench_pages _ _ _ hP hD hS hl hf
      · replace hf := dg_f c4 hf
        refine lv_bipush (v := -2) hx hb dX5_sure_17 (by decide) ?_
        have he := Option.some.inj hf
        have hP9 := hP
        have hD9 := hD
        exact W.iret (v := (-2:Int32)) hx hb hr (fun t eth hW => ⟨⟨(-2:Int32), vt_bench_pages, rfl, ⟨(congrArg Prod.fst he).symm, (congrArg Prod.snd he).symm⟩, by rw [eth]; exact hP9, va_K.moved hW.alike hK, hD9⟩, hS.F eth⟩) hS.2.2 dX5_sure_19
theorem hd_X5_commonDivisor : yX5_commonDivisor.cls ≠ "java/lang/invoke/MethodHandle" ∧ yX5_commonDivisor.cls ≠ "java/lang/invoke/VarHandle" ∧ (parseMethodDescriptor yX5_commonDivisor.desc).map (fun d => d.parameters.length) = some 2 := by decide +kernel
abbrev rm_X5_commonDivisor : Room := { frames := 0, cells := 0, slots := 0, locals := 0 }
abbrev q_X5_commonDivisor (dC : Nat → ClassId) (dI : Nat → Nat → Nat) (cI cJ cZ : ClassId) (R : Int32) (A : Nat → Prop) : Array Value → State → Outcome → State → Prop := va_Qi (fun (r : Int32) (_ : Unit) => R = r) (fun (u : Unit) (t : State) => va_P (dC, dI) vwCl [] t.heap ∧ va_K (dC, dI) vwCl [(cI, .int), (cJ, .long), (cZ, .boolean)] t ∧ va_D A []) A
set_option maxHeartbeats 4000000 in
set_option maxRecDepth 100000 in
theorem k_X5_commonDivisor (l : Launch) (dC : Nat → ClassId) (dI : Nat → Nat → Nat) (cI cJ cZ : ClassId) (sz : Nat) (a0 : Int32) (a1 : Int32) (N : Nat) (R : Int32) (hf : f_X5_commonDivisor N a0 a1 = some R) : Met l yX5_commonDivisor wsX5_commonDivisor (rm_X5_commonDivisor) (va_Pc [.int a0, .int a1] (fun U => U.heap.size = sz ∧ va_P (dC, dI) vwCl [] U.heap ∧ va_K (dC, dI) vwCl [(cI, .int), (cJ, .long), (cZ, .boolean)] U ∧ va_D (fun _ => True) [])) (q_X5_commonDivisor dC dI cI cJ cZ  R (va_A [] sz)) 0 0 (va_A [] sz) := by
  refine Met.ofW (cc := cX5_commonDivisor) (maxL := 6) (ret := (some .int)) (by decide) rfl ?_
  intro p e s m args below meth c s₁ B hml hv
  obtain ⟨rfl, hsz, hP, hK, hD0⟩ := hv
  have hx := B.exec
  have hb := B.bytes
  have hr := B.returns
  have hts := atoms_spec (ws := wsX5_commonDivisor) B.pre
  have hown : s.vm.findClass RX5 = some m.cls := findClass_of_methodNamed B.named
  have hlocks := B.notSynchronized
  clear B
  subst hsz
  have hD := hD0.self (sz := s.heap.size)
  clear hD0
  generalize hAe : va_A [] s.heap.size = A at hD ⊢
  have hA : ∀ q : Nat, s.heap.size ≤ q → A q := fun q h => by rw [← hAe]; exact Or.inr h
  clear hAe
  have hS : va_S A s.heap s.heap [] := va_S.rf
  have hl := lv_entry ([.int a0, .int a1]) (n := 6) (Nat.le_of_ble_eq_true rfl)
  rw [lg_entry_eq]
  generalize (lg_sl ([.int a0, .int a1]) ++ List.replicate (6 - (lg_sl ([.int a0, .int a1])).length) Slot.unset).toArray = ls at hl ⊢
  have hl : lv_has ls 6 [(0, .int a0), (1, .int a1)] := hl
  unfold f_X5_commonDivisor at hf
  refine lv_iload_n hx hb dX5_commonDivisor_0 rfl (lv_at hl 0 rfl) ?_
  refine lv_istore_n (lv' := [(2, .int a0), (0, .int a0), (1, .int a1)]) hx hb dX5_commonDivisor_1 rfl hl (by decide) rfl (fun ls hl => ?_)
  refine lv_iload_n hx hb dX5_commonDivisor_2 rfl (lv_at hl 2 rfl) ?_
  refine lv_istore_n (lv' := [(3, .int a1), (2, .int a0), (0, .int a0), (1, .int a1)]) hx hb dX5_commonDivisor_3 rfl hl (by decide) rfl (fun ls hl => ?_)
  refine lv_iconst (v := 0) hx hb dX5_commonDivisor_4 (by decide) ?_
  refine lv_istore (lv' := [(4, .int (0:Int32)), (3, .int a1), (2, .int a0), (0, .int a0), (1, .int a1)]) hx hb dX5_commonDivisor_5 hl (by decide) rfl (fun ls hl => ?_)
  have ex7 : ∀ (z2_7 : Int32) (z3_7 : Int32) (z4_7 : Int32) (H : Heap) (locs : List Loc) (ls : Array Slot), va_P (dC, dI) vwCl [] H → va_D A [] → va_S A s.heap H locs → lv_has ls 6 [(4, .int z4_7), (3, .int z3_7), (2, .int z2_7), (0, .int a0), (1, .int a1)] → (some z2_7) = some R → W p l e (rm_X5_commonDivisor) s m ([.int a0, .int a1] : List Value).toArray below meth c H locs 0 0 (MQ below (q_X5_commonDivisor dC dI cI cJ cZ  R A) ([.int a0, .int a1] : List Value).toArray s 0 0 A) (F0 m 34 ls []) := by
    intro z2_7 z3_7 z4_7 H locs ls hP hD hS hl hf
    refine lv_iload_n hx hb dX5_commonDivisor_34 rfl (lv_at hl 2 rfl) ?_
    have he := Option.some.inj hf
    have hP9 := hP
    have hD9 := hD
    exact W.iret (v := z2_7) hx hb hr (fun t eth hW => ⟨⟨z2_7, (), rfl, he.symm, by rw [eth]; exact hP9, va_K.moved hW.alike hK, hD9⟩, hS.F eth⟩) hS.2.2 dX5_commonDivisor_35
  have lp7 : ∀ (n7 : Nat) (y2_7 : Int32) (y3_7 : Int32) (y4_7 : Int32) (H : Heap) (locs : List Loc) (ls : Array Slot), va_P (dC, dI) vwCl [] H → va_D A [] → va_S A s.heap H locs → lv_has ls 6 [(4, .int y4_7), (3, .int y3_7), (2, .int y2_7), (0, .int a0), (1, .int a1)] → f_X5_commonDivisor_7 N (fun z2_7 z3_7 z4_7 => some z2_7) n7 y2_7 y3_7 y4_7 = some R → W p l e (rm_X5_commonDivisor) s m ([.int a0, .int a1] : List Value).toArray below meth c H locs 0 0 (MQ below (q_X5_commonDivisor dC dI cI cJ cZ  R A) ([.int a0, .int a1] : List Value).toArray s 0 0 A) (F0 m 7 ls []) := by
    intro n7
    induction n7 with
    | zero => intro y2_7 y3_7 y4_7 H locs ls hP hD hS hl hf; rw [f_X5_commonDivisor_7] at hf; cases hf
    | succ n7 ih7 =>
      intro y2_7 y3_7 y4_7 H locs ls hP hD hS hl hf
      rw [f_X5_commonDivisor_7] at hf
      refine lv_iload hx hb dX5_commonDivisor_7 (lv_at hl 0 rfl) ?_
      refine lv_bipush (v := 64) hx hb dX5_commonDivisor_9 (by decide) ?_
      refine lv_icmp_ge (tgt := 34) hx hb dX5_commonDivisor_11 (by decide) (fun c1 => ?_) (fun c1 => ?_)
      · replace hf := dg_t c1 hf
        exact ex7 y2_7 y3_7 y4_7 _ _ _ hP hD hS (lv_sub hl [0, 1, 2, 3, 4] rfl) hf
      · replace hf := dg_f c1 hf
        refine lv_iload_n hx hb dX5_commonDivisor_14 rfl (lv_at hl 1 rfl) ?_
        refine lv_if_eq (tgt := 34) hx hb dX5_commonDivisor_15 (by decide) (fun c2 => ?_) (fun c2 => ?_)
        · replace hf := dg_t c2 hf
          exact ex7 y2_7 y3_7 y4_7 _ _ _ hP hD hS (lv_sub hl [0, 1, 2, 3, 4] rfl) hf
        · replace hf := dg_f c2 hf
          refine lv_iload_n hx hb dX5_commonDivisor_18 rfl (lv_at hl 2 rfl) ?_
          refine lv_iload_n hx hb dX5_commonDivisor_19 rfl (lv_at hl 1 rfl) ?_
          obtain ⟨hnz3, hf⟩ := dg_nz hf
          refine lv_irem hx hb dX5_commonDivisor_20 hnz3 ?_
          refine lv_istore (lv' := [(5, .int (y2_7 - y2_7 / y3_7 * y3_7)), (4, .int y4_7), (3, .int y3_7), (2, .int y2_7), (0, .int a0), (1, .int a1)]) hx hb dX5_commonDivisor_21 hl (by decide) rfl (fun ls hl => ?_)
          refine lv_iload_n hx hb dX5_commonDivisor_23 rfl (lv_at hl 2 rfl) ?_
          refine lv_istore_n (lv' := [(2, .int y3_7), (5, .int (y2_7 - y2_7 / y3_7 * y3_7)), (4, .int y4_7), (3, .int y3_7), (0, .int a0), (1, .int a1)]) hx hb dX5_commonDivisor_24 rfl hl (by decide) rfl (fun ls hl => ?_)
          refine lv_iload hx hb dX5_commonDivisor_25 (lv_at hl 1 rfl) ?_
          refine lv_istore_n (lv' := [(3, .int (y2_7 - y2_7 / y3_7 * y3_7)), (2, .int y3_7), (5, .int (y2_7 - y2_7 / y3_7 * y3_7)), (4, .int y4_7), (0, .int a0), (1, .int a1)]) hx hb dX5_commonDivisor_27 rfl hl (by decide) rfl (fun ls hl => ?_)
          refine lv_iinc (v := (y4_7 + (1:Int32))) (lv' := [(4, .int (y4_7 + (1:Int32))), (3, .int (y2_7 - y2_7 / y3_7 * y3_7)), (2, .int y3_7), (5, .int (y2_7 - y2_7 / y3_7 * y3_7)), (0, .int a0), (1, .int a1)]) hx hb dX5_commonDivisor_28 hl (k := 3) rfl (by first | rfl | decide) (by decide) rfl (fun ls hl => ?_)
          refine lv_goto (tgt := 7) hx hb dX5_commonDivisor_31 (by decide) ?_
          exact ih7 y3_7 (y2_7 - y2_7 / y3_7 * y3_7) (y4_7 + (1:Int32)) _ _ _ hP hD hS (lv_sub hl [0, 1, 2, 4, 5] rfl) hf
  exact lp7 N a0 a1 (0:Int32) _ _ _ hP hD hS hl hf
theorem hd_X5_partOfFraction : yX5_partOfFraction.cls ≠ "java/lang/invoke/MethodHandle" ∧ yX5_partOfFraction.cls ≠ "java/lang/invoke/VarHandle" ∧ (parseMethodDescriptor yX5_partOfFraction.desc).map (fun d => d.parameters.length) = some 3 := by decide +kernel
abbrev rm_X5_partOfFraction : Room := { frames := 1, cells := 0, slots := 0, locals := 30 }
abbrev q_X5_partOfFraction (dC : Nat → ClassId) (dI : Nat → Nat → Nat) (cI cJ cZ : ClassId) (R : Int32) (A : Nat → Prop) : Array Value → State → Outcome → State → Prop := va_Qi (fun (r : Int32) (_ : Unit) => R = r) (fun (u : Unit) (t : State) => va_P (dC, dI) vwCl [] t.heap ∧ va_K (dC, dI) vwCl [(cI, .int), (cJ, .long), (cZ, .boolean)] t ∧ va_D A []) A
set_option maxHeartbeats 4000000 in
set_option maxRecDepth 100000 in
theorem k_X5_partOfFraction (l : Launch) (dC : Nat → ClassId) (dI : Nat → Nat → Nat) (cI cJ cZ : ClassId) (sz : Nat) (a0 : Int32) (a1 : Int32) (a2 : Int32) (N : Nat) (R : Int32) (hf : f_X5_partOfFraction N a0 a1 a2 = some R) : Met l yX5_partOfFraction wsX5_partOfFraction (rm_X5_partOfFraction) (va_Pc [.int a0, .int a1, .int a2] (fun U => U.heap.size = sz ∧ va_P (dC, dI) vwCl [] U.heap ∧ va_K (dC, dI) vwCl [(cI, .int), (cJ, .long), (cZ, .boolean)] U ∧ va_D (fun _ => True) [])) (q_X5_partOfFraction dC dI cI cJ cZ  R (va_A [] sz)) 0 0 (va_A [] sz) := by
  refine Met.ofW (cc := cX5_partOfFraction) (maxL := 4) (ret := (some .int)) (by decide) rfl ?_
  intro p e s m args below meth c s₁ B hml hv
  obtain ⟨rfl, hsz, hP, hK, hD0⟩ := hv
  have hx := B.exec
  have hb := B.bytes
  have hr := B.returns
  have hts := atoms_spec (ws := wsX5_partOfFraction) B.pre
  have hown : s.vm.findClass RX5 = some m.cls := findClass_of_methodNamed B.named
  have hlocks := B.notSynchronized
  clear B
  subst hsz
  have hw0 := hts (.methodLink RX5 244 Lib.Math.max.name) (by decide +kernel)
  have hw1 := hts (.static Lib.Math.max.name) (by decide +kernel)
  have hw2 := hts (.initialized "java/lang/Math") (by decide +kernel)
  have hw3 := hts (.code Lib.Math.max.name Lib.Math.max.code 2 (some .int)) (List.mem_of_getElem? (i := 4) rfl)
  have hD := hD0.self (sz := s.heap.size)
  clear hD0
  generalize hAe : va_A [] s.heap.size = A at hD ⊢
  have hA : ∀ q : Nat, s.heap.size ≤ q → A q := fun q h => by rw [← hAe]; exact Or.inr h
  clear hAe
  have hS : va_S A s.heap s.heap [] := va_S.rf
  have hl := lv_entry ([.int a0, .int a1, .int a2]) (n := 4) (Nat.le_of_ble_eq_true rfl)
  rw [lg_entry_eq]
  generalize (lg_sl ([.int a0, .int a1, .int a2]) ++ List.replicate (4 - (lg_sl ([.int a0, .int a1, .int a2])).length) Slot.unset).toArray = ls at hl ⊢
  have hl : lv_has ls 4 [(0, .int a0), (1, .int a1), (2, .int a2)] := hl
  unfold f_X5_partOfFraction at hf
  refine lv_iconst (v := 1) hx hb dX5_partOfFraction_0 (by decide) ?_
  refine lv_iload_n hx hb dX5_partOfFraction_1 rfl (lv_at hl 0 rfl) ?_
  refine lv_iload_n hx hb dX5_partOfFraction_2 rfl (lv_at hl 1 rfl) ?_
  obtain ⟨x1, hx1, hf⟩ := dg_bind hf
  have hPc : va_P (dC, dI) vwCl [] s.heap := hP.sub [] rfl
  have hDc : va_D A [] := hD.sub [] (by decide) rfl
  have hFc := va_free (wc := []) hD hS hA [] rfl
  refine va_calli (va_runS (As := [.int a0, .int a1]) (rest := [.int (1:Int32)]) ⟨hx, hb, hml, hown, hts⟩ (k_X5_commonDivisor l dC dI cI cJ cZ s.heap.size a0 a1 N x1 hx1) (va_cwS 2 hts gX5_partOfFraction_X5_commonDivisor rfl rfl rfl hd_X5_commonDivisor ⟨Nat.le_of_ble_eq_true rfl, Nat.le_of_ble_eq_true rfl⟩) ⟨blind_pc, pre_pc hPc hK hDc⟩ rfl rfl hl.1 rfl (lv_room (Nat.le_of_ble_eq_true rfl)) dX5_partOfFraction_3 ⟨Nat.zero_le _, Nat.zero_le _⟩) hS (fun q _ h => hFc q h) hFc (fun r u t H1 locs eth hvm hw hB hz1 hk1 hS => ?_)
  obtain ⟨hP1, hK1, hD1⟩ := hB
  rw [eth] at hP1
  subst hw
  obtain ⟨hP, hD⟩ := va_join (wr := []) (w1 := []) hP hD [] [] rfl rfl (by decide) (by decide) hk1 hFc hP1 hD1
  clear hP1 hK1 hD1 hPc hDc hFc hk1 hz1 hvm eth
  generalize H1 = H at hP hS ⊢
  have hP : va_P (dC, dI) vwCl [] H := hP
  have hD : va_D A [] := hD
  refine va_mmax hx hb (by rw [hml]; exact hl.1.symm) hown hw0 hw1 hw2 hw3 (Nat.le_of_ble_eq_true rfl) (Nat.le_of_ble_eq_true rfl) (Nat.zero_le _) (Nat.zero_le _) dX5_partOfFraction_6 ?_
  refine lv_istore_n (lv' := [(3, .int (if (1:Int32) < x1 then x1 else (1:Int32))), (0, .int a0), (1, .int a1), (2, .int a2)]) hx hb dX5_partOfFraction_9 rfl hl (by decide) rfl (fun ls hl => ?_)
  refine lv_iload_n hx hb dX5_partOfFraction_10 rfl (lv_at hl 3 rfl) ?_
  refine lv_if_eq (tgt := 18) hx hb dX5_partOfFraction_11 (by decide) (fun c2 => ?_) (fun c2 => ?_)
  · replace hf := dg_t c2 hf
    refine lv_iload_n hx hb dX5_partOfFraction_18 rfl (lv_at hl 2 rfl) ?_
    refine lv_iload_n hx hb dX5_partOfFraction_19 rfl (lv_at hl 0 rfl) ?_
    obtain ⟨hnz3, hf⟩ := dg_nz hf
    refine lv_idiv hx hb dX5_partOfFraction_20 hnz3 ?_
    have he := Option.some.inj hf
    have hP9 := hP
    have hD9 := hD
    exact W.iret (v := (a1 / (if (1:Int32) < x1 then x1 else (1:Int32)))) hx hb hr (fun t eth hW => ⟨⟨(a1 / (if (1:Int32) < x1 then x1 else (1:Int32))), (), rfl, he.symm, by rw [eth]; exact hP9, va_K.moved hW.alike hK, hD9⟩, hS.F eth⟩) hS.2.2 dX5_partOfFraction_21
  · replace hf := dg_f c2 hf
    refine lv_iload_n hx hb dX5_partOfFraction_14 rfl (lv_at hl 1 rfl) ?_
    refine lv_goto (tgt := 19) hx hb dX5_partOfFraction_15 (by decide) ?_
    refine lv_iload_n hx hb dX5_partOfFraction_19 rfl (lv_at hl 0 rfl) ?_
    obtain ⟨hnz4, hf⟩ := dg_nz hf
    refine lv_idiv hx hb dX5_partOfFraction_20 hnz4 ?_
    have he := Option.some.inj hf
    have hP9 := hP
    have hD9 := hD
    exact W.iret (v := (a0 / (if (1:Int32) < x1 then x1 else (1:Int32)))) hx hb hr (fun t eth hW => ⟨⟨(a0 / (if (1:Int32) < x1 then x1 else (1:Int32))), (), rfl, he.symm, by rw [eth]; exact hP9, va_K.moved hW.alike hK, hD9⟩, hS.F eth⟩) hS.2.2 dX5_partOfFraction_21
