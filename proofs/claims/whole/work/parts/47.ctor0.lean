theorem hd_X0_init : yX0_init.cls ≠ "java/lang/invoke/MethodHandle" ∧ yX0_init.cls ≠ "java/lang/invoke/VarHandle" ∧ (parseMethodDescriptor yX0_init.desc).map (fun d => d.parameters.length) = some 0 := by decide +kernel
abbrev rm_X0_init : Room := { frames := 1, cells := 1, slots := 16, locals := 20 }
abbrev q_X0_init (dC : Nat → ClassId) (dI : Nat → Nat → Nat) (cI cJ cZ : ClassId) (ht : Nat) (A : Nat → Prop) : Array Value → State → Outcome → State → Prop := va_Qv (fun (_ : Unit) => True) (fun (_ : Unit) (t : State) => ∃ (ht_before : Nat), va_P (dC, dI) vwCl [(ht, .inr (0, [.ref ht_before, .int (0:Int32)])), (ht_before, .inl (cJ, 16, .inr (.inl (fun _ => 0))))] t.heap ∧ va_K (dC, dI) vwCl [(cI, .int), (cJ, .long), (cZ, .boolean)] t ∧ va_D A [(ht, .inr (0, [.ref ht_before, .int (0:Int32)])), (ht_before, .inl (cJ, 16, .inr (.inl (fun _ => 0))))]) A
set_option maxHeartbeats 4000000 in
set_option maxRecDepth 100000 in
theorem k_X0_init (l : Launch) (dC : Nat → ClassId) (dI : Nat → Nat → Nat) (cI cJ cZ : ClassId) (sz ht : Nat) : Met l yX0_init wsX0_init rm_X0_init (va_Pc [.ref ht] (fun U => U.heap.size = sz ∧ va_P (dC, dI) vwCl [(ht, .inr (0, [.null, .int (0:Int32)]))] U.heap ∧ va_K (dC, dI) vwCl [(cI, .int), (cJ, .long), (cZ, .boolean)] U ∧ va_D (fun _ => True) [(ht, .inr (0, [.null, .int (0:Int32)]))])) (q_X0_init dC dI cI cJ cZ ht (va_A [(ht, .inr (0, [.null, .int (0:Int32)]))] sz)) 1 16 (va_A [(ht, .inr (0, [.null, .int (0:Int32)]))] sz) := by
  refine Met.ofW (cc := cX0_init) (maxL := 1) (ret := none) (by decide) rfl ?_
  intro p e s m args below meth c s₁ B hml hv
  obtain ⟨rfl, hsz, hP, hK, hD0⟩ := hv
  have hx := B.exec
  have hb := B.bytes
  have hr := B.returns
  have hts := atoms_spec (ws := wsX0_init) B.pre
  have hown : s.vm.findClass RX0 = some m.cls := findClass_of_methodNamed B.named
  have hlocks := B.notSynchronized
  have hin : meth.name = "<init>" := (name_of_methodNamed B.named B.method).1
  clear B
  subst hsz
  have hw0 := hts (.methodLink RX0 3 objectInit) (by decide +kernel)
  have hw1 := hts (.instanceMethod objectInit) (by decide +kernel)
  have hw2 := hts (.code objectInit ⟨#[0xb1]⟩ 1 none) (List.mem_of_getElem? (i := 3) rfl)
  have hw3 := hts (.arrayClass .long) (by decide +kernel)
  have hw4 := hts (.fieldLink RX0 9 "ShorthandCourt$ActRow" "before" "[J") (by decide +kernel)
  have hinX0 : ∀ w ∈ u_ws RX0 TX0 2, w ∈ wsX0_init := by decide +kernel
  have hD := hD0.self (sz := s.heap.size)
  clear hD0
  generalize hAe : va_A [(ht, .inr (0, [.null, .int (0:Int32)]))] s.heap.size = A at hD ⊢
  have hA : ∀ q : Nat, s.heap.size ≤ q → A q := fun q h => by rw [← hAe]; exact Or.inr h
  clear hAe
  have hS : va_S A s.heap s.heap [] := va_S.rf
  have hl := lv_entry ([.ref ht]) (n := 1) (Nat.le_of_ble_eq_true rfl)
  rw [lg_entry_eq]
  generalize (lg_sl ([.ref ht]) ++ List.replicate (1 - (lg_sl ([.ref ht])).length) Slot.unset).toArray = ls at hl ⊢
  have hl : lv_has ls 1 [(0, .ref ht)] := hl
  refine lv_aload_n hx hb dX0_init_0 rfl (lv_at hl 0 rfl) ?_
  refine W.objInit hx hb hown hw0 hw1 hw2 rfl (by rw [hml]; exact hl.1) rfl dX0_init_1 (Nat.le_of_ble_eq_true rfl) (Nat.le_of_ble_eq_true rfl) ?_
  refine W.eq (g2 := F0 m 4 ls []) rfl ?_
  refine lv_aload_n hx hb dX0_init_4 rfl (lv_at hl 0 rfl) ?_
  refine lv_bipush (v := 16) hx hb dX0_init_5 (by decide) ?_
  refine va_newa (atype := .long) (ty := .long) (a0 := (16, .inr (.inl (fun _ => 0)))) (N' := 16) hx hb hw3 rfl hK hP hD hS hA (fun cA => vp_cell_l cA 16 (fun _ => 0)) (by decide) (by decide +kernel) (by decide +kernel) (by show 0 + 1 ≤ 1; omega) (by show 0 + 16 ≤ 16; omega) dX0_init_7 (fun ht_before cA H hK2 hP hD hS => ?_)
  obtain rfl : cJ = cA := kt_eq hK2 1 3 rfl rfl (Or.inr (Or.inl rfl))
  clear hK2
  have hP : va_P (dC, dI) vwCl [(ht, .inr (0, [.null, .int (0:Int32)])), (ht_before, .inl (cJ, 16, .inr (.inl (fun _ => 0))))] H := hP
  have hD : va_D A [(ht, .inr (0, [.null, .int (0:Int32)])), (ht_before, .inl (cJ, 16, .inr (.inl (fun _ => 0))))] := hD
  refine W.widen (k := 1) (n := 16) (by omega) (by omega) ?_
  refine va_putF (D := (dC, dI)) (ci := 0) (v := .ref ht_before) (ty := .array .long) (C := RX0) (T := TX0) (N := 2) hx hb hts hinX0 tyX0 tyX0_ok nmX0 hown hK hP hD hS 0 rfl rfl 0 (by decide) hw4 (fun _ h9 => h9) rfl hin rfl (by decide +kernel) rfl rfl (Nat.le_of_ble_eq_true rfl) dX0_init_9 (fun H locs hP hD hS => ?_)
  have hP : va_P (dC, dI) vwCl [(ht, .inr (0, [.ref ht_before, .int (0:Int32)])), (ht_before, .inl (cJ, 16, .inr (.inl (fun _ => 0))))] H := hP
  have hD : va_D A [(ht, .inr (0, [.ref ht_before, .int (0:Int32)])), (ht_before, .inl (cJ, 16, .inr (.inl (fun _ => 0))))] := hD
  have hP9 := hP
  have hD9 := hD
  exact W.vret hx hb hr (fun t eth hW => ⟨⟨(), rfl, trivial, ht_before, by rw [eth]; exact hP9, va_K.moved hW.alike hK, hD9⟩, hS.F eth⟩) hS.2.2 dX0_init_12
theorem hd_X1_init : yX1_init.cls ≠ "java/lang/invoke/MethodHandle" ∧ yX1_init.cls ≠ "java/lang/invoke/VarHandle" ∧ (parseMethodDescriptor yX1_init.desc).map (fun d => d.parameters.length) = some 0 := by decide +kernel
abbrev rm_X1_init : Room := { frames := 1, cells := 6, slots := 24, locals := 20 }
abbrev q_X1_init (dC : Nat → ClassId) (dI : Nat → Nat → Nat) (cI cJ cZ : ClassId) (ht : Nat) (A : Nat → Prop) : Array Value → State → Outcome → State → Prop := va_Qv (fun (_ : Unit) => True) (fun (_ : Unit) (t : State) => ∃ (ht_drops ht_from ht_to ht_tires ht_copies ht_pages : Nat), va_P (dC, dI) vwCl [(ht, .inr (1, [.ref ht_drops, .ref ht_from, .ref ht_to, .ref ht_tires, .ref ht_copies, .ref ht_pages, .int (0:Int32)])), (ht_drops, .inl (cI, 4, .inl (fun _ => 0))), (ht_from, .inl (cI, 4, .inl (fun _ => 0))), (ht_to, .inl (cI, 4, .inl (fun _ => 0))), (ht_tires, .inl (cI, 4, .inl (fun _ => 0))), (ht_copies, .inl (cI, 4, .inl (fun _ => 0))), (ht_pages, .inl (cI, 4, .inl (fun _ => 0)))] t.heap ∧ va_K (dC, dI) vwCl [(cI, .int), (cJ, .long), (cZ, .boolean)] t ∧ va_D A [(ht, .inr (1, [.ref ht_drops, .ref ht_from, .ref ht_to, .ref ht_tires, .ref ht_copies, .ref ht_pages, .int (0:Int32)])), (ht_drops, .inl (cI, 4, .inl (fun _ => 0))), (ht_from, .inl (cI, 4, .inl (fun _ => 0))), (ht_to, .inl (cI, 4, .inl (fun _ => 0))), (ht_tires, .inl (cI, 4, .inl (fun _ => 0))), (ht_copies, .inl (cI, 4, .inl (fun _ => 0))), (ht_pages, .inl (cI, 4, .inl (fun _ => 0)))]) A
set_option maxHeartbeats 4000000 in
set_option maxRecDepth 100000 in
theorem k_X1_init (l : Launch) (dC : Nat → ClassId) (dI : Nat → Nat → Nat) (cI cJ cZ : ClassId) (sz ht : Nat) : Met l yX1_init wsX1_init rm_X1_init (va_Pc [.ref ht] (fun U => U.heap.size = sz ∧ va_P (dC, dI) vwCl [(ht, .inr (1, [.null, .null, .null, .null, .null, .null, .int (0:Int32)]))] U.heap ∧ va_K (dC, dI) vwCl [(cI, .int), (cJ, .long), (cZ, .boolean)] U ∧ va_D (fun _ => True) [(ht, .inr (1, [.null, .null, .null, .null, .null, .null, .int (0:Int32)]))])) (q_X1_init dC dI cI cJ cZ ht (va_A [(ht, .inr (1, [.null, .null, .null, .null, .null, .null, .int (0:Int32)]))] sz)) 6 24 (va_A [(ht, .inr (1, [.null, .null, .null, .null, .null, .null, .int (0:Int32)]))] sz) := by
  refine Met.ofW (cc := cX1_init) (maxL := 1) (ret := none) (by decide) rfl ?_
  intro p e s m args below meth c s₁ B hml hv
  obtain ⟨rfl, hsz, hP, hK, hD0⟩ := hv
  have hx := B.exec
  have hb := B.bytes
  have hr := B.returns
  have hts := atoms_spec (ws := wsX1_init) B.pre
  have hown : s.vm.findClass RX1 = some m.cls := findClass_of_methodNamed B.named
  have hlocks := B.notSynchronized
  have hin : meth.name = "<init>" := (name_of_methodNamed B.named B.method).1
  clear B
  subst hsz
  have hw0 := hts (.methodLink RX1 3 objectInit) (by decide +kernel)
  have hw1 := hts (.instanceMethod objectInit) (by decide +kernel)
  have hw2 := hts (.code objectInit ⟨#[0xb1]⟩ 1 none) (List.mem_of_getElem? (i := 3) rfl)
  have hw3 := hts (.arrayClass .int) (by decide +kernel)
  have hw4 := hts (.fieldLink RX1 9 "ShorthandCourt$Bench" "drops" "[I") (by decide +kernel)
  have hw5 := hts (.fieldLink RX1 15 "ShorthandCourt$Bench" "from" "[I") (by decide +kernel)
  have hw6 := hts (.fieldLink RX1 18 "ShorthandCourt$Bench" "to" "[I") (by decide +kernel)
  have hw7 := hts (.fieldLink RX1 21 "ShorthandCourt$Bench" "tires" "[I") (by decide +kernel)
  have hw8 := hts (.fieldLink RX1 24 "ShorthandCourt$Bench" "copies" "[I") (by decide +kernel)
  have hw9 := hts (.fieldLink RX1 27 "ShorthandCourt$Bench" "pages" "[I") (by decide +kernel)
  have hinX1 : ∀ w ∈ u_ws RX1 TX1 7, w ∈ wsX1_init := by decide +kernel
  have hD := hD0.self (sz := s.heap.size)
  clear hD0
  generalize hAe : va_A [(ht, .inr (1, [.null, .null, .null, .null, .null, .null, .int (0:Int32)]))] s.heap.size = A at hD ⊢
  have hA : ∀ q : Nat, s.heap.size ≤ q → A q := fun q h => by rw [← hAe]; exact Or.inr h
  clear hAe
  have hS : va_S A s.heap s.heap [] := va_S.rf
  have hl := lv_entry ([.ref ht]) (n := 1) (Nat.le_of_ble_eq_true rfl)
  rw [lg_entry_eq]
  generalize (lg_sl ([.ref ht]) ++ List.replicate (1 - (lg_sl ([.ref ht])).length) Slot.unset).toArray = ls at hl ⊢
  have hl : lv_has ls 1 [(0, .ref ht)] := hl
  refine lv_aload_n hx hb dX1_init_0 rfl (lv_at hl 0 rfl) ?_
  refine W.objInit hx hb hown hw0 hw1 hw2 rfl (by rw [hml]; exact hl.1) rfl dX1_init_1 (Nat.le_of_ble_eq_true rfl) (Nat.le_of_ble_eq_true rfl) ?_
  refine W.eq (g2 := F0 m 4 ls []) rfl ?_
  refine lv_aload_n hx hb dX1_init_4 rfl (lv_at hl 0 rfl) ?_
  refine lv_iconst (v := 4) hx hb dX1_init_5 (by decide) ?_
  refine va_newa (atype := .int) (ty := .int) (a0 := (4, .inl (fun _ => 0))) (N' := 4) hx hb hw3 rfl hK hP hD hS hA (fun cA => vp_cell_i cA 4 (fun _ => 0)) (by decide) (by decide +kernel) (by decide +kernel) (by show 0 + 1 ≤ 6; omega) (by show 0 + 4 ≤ 24; omega) dX1_init_6 (fun ht_drops cA H hK2 hP hD hS => ?_)
  obtain rfl : cI = cA := kt_eq hK2 0 3 rfl rfl (Or.inl rfl)
  clear hK2
  have hP : va_P (dC, dI) vwCl [(ht, .inr (1, [.null, .null, .null, .null, .null, .null, .int (0:Int32)])), (ht_drops, .inl (cI, 4, .inl (fun _ => 0)))] H := hP
  have hD : va_D A [(ht, .inr (1, [.null, .null, .null, .null, .null, .null, .int (0:Int32)])), (ht_drops, .inl (cI, 4, .inl (fun _ => 0)))] := hD
  refine W.widen (k := 1) (n := 4) (by omega) (by omega) ?_
  refine va_putF (D := (dC, dI)) (ci := 1) (v := .ref ht_drops) (ty := .array .int) (C := RX1) (T := TX1) (N := 7) hx hb hts hinX1 tyX1 tyX1_ok nmX1 hown hK hP hD hS 0 rfl rfl 0 (by decide) hw4 (fun _ h9 => h9) rfl hin rfl (by decide +kernel) rfl rfl (Nat.le_of_ble_eq_true rfl) dX1_init_8 (fun H locs hP hD hS => ?_)
  have hP : va_P (dC, dI) vwCl [(ht, .inr (1, [.ref ht_drops, .null, .null, .null, .null, .null, .int (0:Int32)])), (ht_drops, .inl (cI, 4, .inl (fun _ => 0)))] H := hP
  have hD : va_D A [(ht, .inr (1, [.ref ht_drops, .null, .null, .null, .null, .null, .int (0:Int32)])), (ht_drops, .inl (cI, 4, .inl (fun _ => 0)))] := hD
  refine lv_aload_n hx hb dX1_init_11 rfl (lv_at hl 0 rfl) ?_
  refine lv_iconst (v := 4) hx hb dX1_init_12 (by decide) ?_
  refine va_newa (atype := .int) (ty := .int) (a0 := (4, .inl (fun _ => 0))) (N' := 4) hx hb hw3 rfl hK hP hD hS hA (fun cA => vp_cell_i cA 4 (fun _ => 0)) (by decide) (by decide +kernel) (by decide +kernel) (by show 1 + 1 ≤ 6; omega) (by show 4 + 4 ≤ 24; omega) dX1_init_13 (fun ht_from cA H hK2 hP hD hS => ?_)
  obtain rfl : cI = cA := kt_eq hK2 0 3 rfl rfl (Or.inl rfl)
  clear hK2
  have hP : va_P (dC, dI) vwCl [(ht, .inr (1, [.ref ht_drops, .null, .null, .null, .null, .null, .int (0:Int32)])), (ht_drops, .inl (cI, 4, .inl (fun _ => 0))), (ht_from, .inl (cI, 4, .inl (fun _ => 0)))] H := hP
  have hD : va_D A [(ht, .inr (1, [.ref ht_drops, .null, .null, .null, .null, .null, .int (0:Int32)])), (ht_drops, .inl (cI, 4, .inl (fun _ => 0))), (ht_from, .inl (cI, 4, .inl (fun _ => 0)))] := hD
  refine W.widen (k := 2) (n := 8) (by omega) (by omega) ?_
  refine va_putF (D := (dC, dI)) (ci := 1) (v := .ref ht_from) (ty := .array .int) (C := RX1) (T := TX1) (N := 7) hx hb hts hinX1 tyX1 tyX1_ok nmX1 hown hK hP hD hS 0 rfl rfl 1 (by decide) hw5 (fun _ h9 => h9) rfl hin rfl (by decide +kernel) rfl rfl (Nat.le_of_ble_eq_true rfl) dX1_init_15 (fun H locs hP hD hS => ?_)
  have hP : va_P (dC, dI) vwCl [(ht, .inr (1, [.ref ht_drops, .ref ht_from, .null, .null, .null, .null, .int (0:Int32)])), (ht_drops, .inl (cI, 4, .inl (fun _ => 0))), (ht_from, .inl (cI, 4, .inl (fun _ => 0)))] H := hP
  have hD : va_D A [(ht, .inr (1, [.ref ht_drops, .ref ht_from, .null, .null, .null, .null, .int (0:Int32)])), (ht_drops, .inl (cI, 4, .inl (fun _ => 0))), (ht_from, .inl (cI, 4, .inl (fun _ => 0)))] := hD
  refine lv_aload_n hx hb dX1_init_18 rfl (lv_at hl 0 rfl) ?_
  refine lv_iconst (v := 4) hx hb dX1_init_19 (by decide) ?_
  refine va_newa (atype := .int) (ty := .int) (a0 := (4, .inl (fun _ => 0))) (N' := 4) hx hb hw3 rfl hK hP hD hS hA (fun cA => vp_cell_i cA 4 (fun _ => 0)) (by decide) (by decide +kernel) (by decide +kernel) (by show 2 + 1 ≤ 6; omega) (by show 8 + 4 ≤ 24; omega) dX1_init_20 (fun ht_to cA H hK2 hP hD hS => ?_)
  obtain rfl : cI = cA := kt_eq hK2 0 3 rfl rfl (Or.inl rfl)
  clear hK2
  have hP : va_P (dC, dI) vwCl [(ht, .inr (1, [.ref ht_drops, .ref ht_from, .null, .null, .null, .null, .int (0:Int32)])), (ht_drops, .inl (cI, 4, .inl (fun _ => 0))), (ht_from, .inl (cI, 4, .inl (fun _ => 0))), (ht_to, .inl (cI, 4, .inl (fun _ => 0)))] H := hP
  have hD : va_D A [(ht, .inr (1, [.ref ht_drops, .ref ht_from, .null, .null, .null, .null, .int (0:Int32)])), (ht_drops, .inl (cI, 4, .inl (fun _ => 0))), (ht_from, .inl (cI, 4, .inl (fun _ => 0))), (ht_to, .inl (cI, 4, .inl (fun _ => 0)))] := hD
  refine W.widen (k := 3) (n := 12) (by omega) (by omega) ?_
  refine va_putF (D := (dC, dI)) (ci := 1) (v := .ref ht_to) (ty := .array .int) (C := RX1) (T := TX1) (N := 7) hx hb hts hinX1 tyX1 tyX1_ok nmX1 hown hK hP hD hS 0 rfl rfl 2 (by decide) hw6 (fun _ h9 => h9) rfl hin rfl (by decide +kernel) rfl rfl (Nat.le_of_ble_eq_true rfl) dX1_init_22 (fun H locs hP hD hS => ?_)
  have hP : va_P (dC, dI) vwCl [(ht, .inr (1, [.ref ht_drops, .ref ht_from, .ref ht_to, .null, .null, .null, .int (0:Int32)])), (ht_drops, .inl (cI, 4, .inl (fun _ => 0))), (ht_from, .inl (cI, 4, .inl (fun _ => 0))), (ht_to, .inl (cI, 4, .inl (fun _ => 0)))] H := hP
  have hD : va_D A [(ht, .inr (1, [.ref ht_drops, .ref ht_from, .ref ht_to, .null, .null, .null, .int (0:Int32)])), (ht_drops, .inl (cI, 4, .inl (fun _ => 0))), (ht_from, .inl (cI, 4, .inl (fun _ => 0))), (ht_to, .inl (cI, 4, .inl (fun _ => 0)))] := hD
  refine lv_aload_n hx hb dX1_init_25 rfl (lv_at hl 0 rfl) ?_
  refine lv_iconst (v := 4) hx hb dX1_init_26 (by decide) ?_
  refine va_newa (atype := .int) (ty := .int) (a0 := (4, .inl (fun _ => 0))) (N' := 4) hx hb hw3 rfl hK hP hD hS hA (fun cA => vp_cell_i cA 4 (fun _ => 0)) (by decide) (by decide +kernel) (by decide +kernel) (by show 3 + 1 ≤ 6; omega) (by show 12 + 4 ≤ 24; omega) dX1_init_27 (fun ht_tires cA H hK2 hP hD hS => ?_)
  obtain rfl : cI = cA := kt_eq hK2 0 3 rfl rfl (Or.inl rfl)
  clear hK2
  have hP : va_P (dC, dI) vwCl [(ht, .inr (1, [.ref ht_drops, .ref ht_from, .ref ht_to, .null, .null, .null, .int (0:Int32)])), (ht_drops, .inl (cI, 4, .inl (fun _ => 0))), (ht_from, .inl (cI, 4, .inl (fun _ => 0))), (ht_to, .inl (cI, 4, .inl (fun _ => 0))), (ht_tires, .inl (cI, 4, .inl (fun _ => 0)))] H := hP
  have hD : va_D A [(ht, .inr (1, [.ref ht_drops, .ref ht_from, .ref ht_to, .null, .null, .null, .int (0:Int32)])), (ht_drops, .inl (cI, 4, .inl (fun _ => 0))), (ht_from, .inl (cI, 4, .inl (fun _ => 0))), (ht_to, .inl (cI, 4, .inl (fun _ => 0))), (ht_tires, .inl (cI, 4, .inl (fun _ => 0)))] := hD
  refine W.widen (k := 4) (n := 16) (by omega) (by omega) ?_
  refine va_putF (D := (dC, dI)) (ci := 1) (v := .ref ht_tires) (ty := .array .int) (C := RX1) (T := TX1) (N := 7) hx hb hts hinX1 tyX1 tyX1_ok nmX1 hown hK hP hD hS 0 rfl rfl 3 (by decide) hw7 (fun _ h9 => h9) rfl hin rfl (by decide +kernel) rfl rfl (Nat.le_of_ble_eq_true rfl) dX1_init_29 (fun H locs hP hD hS => ?_)
  have hP : va_P (dC, dI) vwCl [(ht, .inr (1, [.ref ht_drops, .ref ht_from, .ref ht_to, .ref ht_tires, .null, .null, .int (0:Int32)])), (ht_drops, .inl (cI, 4, .inl (fun _ => 0))), (ht_from, .inl (cI, 4, .inl (fun _ => 0))), (ht_to, .inl (cI, 4, .inl (fun _ => 0))), (ht_tires, .inl (cI, 4, .inl (fun _ => 0)))] H := hP
  have hD : va_D A [(ht, .inr (1, [.ref ht_drops, .ref ht_from, .ref ht_to, .ref ht_tires, .null, .null, .int (0:Int32)])), (ht_drops, .inl (cI, 4, .inl (fun _ => 0))), (ht_from, .inl (cI, 4, .inl (fun _ => 0))), (ht_to, .inl (cI, 4, .inl (fun _ => 0))), (ht_tires, .inl (cI, 4, .inl (fun _ => 0)))] := hD
  refine lv_aload_n hx hb dX1_init_32 rfl (lv_at hl 0 rfl) ?_
  refine lv_iconst (v := 4) hx hb dX1_init_33 (by decide) ?_
  refine va_newa (atype := .int) (ty := .int) (a0 := (4, .inl (fun _ => 0))) (N' := 4) hx hb hw3 rfl hK hP hD hS hA (fun cA => vp_cell_i cA 4 (fun _ => 0)) (by decide) (by decide +kernel) (by decide +kernel) (by show 4 + 1 ≤ 6; omega) (by show 16 + 4 ≤ 24; omega) dX1_init_34 (fun ht_copies cA H hK2 hP hD hS => ?_)
  obtain rfl : cI = cA := kt_eq hK2 0 3 rfl rfl (Or.inl rfl)
  clear hK2
  have hP : va_P (dC, dI) vwCl [(ht, .inr (1, [.ref ht_drops, .ref ht_from, .ref ht_to, .ref ht_tires, .null, .null, .int (0:Int32)])), (ht_drops, .inl (cI, 4, .inl (fun _ => 0))), (ht_from, .inl (cI, 4, .inl (fun _ => 0))), (ht_to, .inl (cI, 4, .inl (fun _ => 0))), (ht_tires, .inl (cI, 4, .inl (fun _ => 0))), (ht_copies, .inl (cI, 4, .inl (fun _ => 0)))] H := hP
  have hD : va_D A [(ht, .inr (1, [.ref ht_drops, .ref ht_from, .ref ht_to, .ref ht_tires, .null, .null, .int (0:Int32)])), (ht_drops, .inl (cI, 4, .inl (fun _ => 0))), (ht_from, .inl (cI, 4, .inl (fun _ => 0))), (ht_to, .inl (cI, 4, .inl (fun _ => 0))), (ht_tires, .inl (cI, 4, .inl (fun _ => 0))), (ht_copies, .inl (cI, 4, .inl (fun _ => 0)))] := hD
  refine W.widen (k := 5) (n := 20) (by omega) (by omega) ?_
  refine va_putF (D := (dC, dI)) (ci := 1) (v := .ref ht_copies) (ty := .array .int) (C := RX1) (T := TX1) (N := 7) hx hb hts hinX1 tyX1 tyX1_ok nmX1 hown hK hP hD hS 0 rfl rfl 4 (by decide) hw8 (fun _ h9 => h9) rfl hin rfl (by decide +kernel) rfl rfl (Nat.le_of_ble_eq_true rfl) dX1_init_36 (fun H locs hP hD hS => ?_)
  have hP : va_P (dC, dI) vwCl [(ht, .inr (1, [.ref ht_drops, .ref ht_from, .ref ht_to, .ref ht_tires, .ref ht_copies, .null, .int (0:Int32)])), (ht_drops, .inl (cI, 4, .inl (fun _ => 0))), (ht_from, .inl (cI, 4, .inl (fun _ => 0))), (ht_to, .inl (cI, 4, .inl (fun _ => 0))), (ht_tires, .inl (cI, 4, .inl (fun _ => 0))), (ht_copies, .inl (cI, 4, .inl (fun _ => 0)))] H := hP
  have hD : va_D A [(ht, .inr (1, [.ref ht_drops, .ref ht_from, .ref ht_to, .ref ht_tires, .ref ht_copies, .null, .int (0:Int32)])), (ht_drops, .inl (cI, 4, .inl (fun _ => 0))), (ht_from, .inl (cI, 4, .inl (fun _ => 0))), (ht_to, .inl (cI, 4, .inl (fun _ => 0))), (ht_tires, .inl (cI, 4, .inl (fun _ => 0))), (ht_copies, .inl (cI, 4, .inl (fun _ => 0)))] := hD
  refine lv_aload_n hx hb dX1_init_39 rfl (lv_at hl 0 rfl) ?_
  refine lv_iconst (v := 4) hx hb dX1_init_40 (by decide) ?_
  refine va_newa (atype := .int) (ty := .int) (a0 := (4, .inl (fun _ => 0))) (N' := 4) hx hb hw3 rfl hK hP hD hS hA (fun cA => vp_cell_i cA 4 (fun _ => 0)) (by decide) (by decide +kernel) (by decide +kernel) (by show 5 + 1 ≤ 6; omega) (by show 20 + 4 ≤ 24; omega) dX1_init_41 (fun ht_pages cA H hK2 hP hD hS => ?_)
  obtain rfl : cI = cA := kt_eq hK2 0 3 rfl rfl (Or.inl rfl)
  clear hK2
  have hP : va_P (dC, dI) vwCl [(ht, .inr (1, [.ref ht_drops, .ref ht_from, .ref ht_to, .ref ht_tires, .ref ht_copies, .null, .int (0:Int32)])), (ht_drops, .inl (cI, 4, .inl (fun _ => 0))), (ht_from, .inl (cI, 4, .inl (fun _ => 0))), (ht_to, .inl (cI, 4, .inl (fun _ => 0))), (ht_tires, .inl (cI, 4, .inl (fun _ => 0))), (ht_copies, .inl (cI, 4, .inl (fun _ => 0))), (ht_pages, .inl (cI, 4, .inl (fun _ => 0)))] H := hP
  have hD : va_D A [(ht, .inr (1, [.ref ht_drops, .ref ht_from, .ref ht_to, .ref ht_tires, .ref ht_copies, .null, .int (0:Int32)])), (ht_drops, .inl (cI, 4, .inl (fun _ => 0))), (ht_from, .inl (cI, 4, .inl (fun _ => 0))), (ht_to, .inl (cI, 4, .inl (fun _ => 0))), (ht_tires, .inl (cI, 4, .inl (fun _ => 0))), (ht_copies, .inl (cI, 4, .inl (fun _ => 0))), (ht_pages, .inl (cI, 4, .inl (fun _ => 0)))] := hD
  refine W.widen (k := 6) (n := 24) (by omega) (by omega) ?_
  refine va_putF (D := (dC, dI)) (ci := 1) (v := .ref ht_pages) (ty := .array .int) (C := RX1) (T := TX1) (N := 7) hx hb hts hinX1 tyX1 tyX1_ok nmX1 hown hK hP hD hS 0 rfl rfl 5 (by decide) hw9 (fun _ h9 => h9) rfl hin rfl (by decide +kernel) rfl rfl (Nat.le_of_ble_eq_true rfl) dX1_init_43 (fun H locs hP hD hS => ?_)
  have hP : va_P (dC, dI) vwCl [(ht, .inr (1, [.ref ht_drops, .ref ht_from, .ref ht_to, .ref ht_tires, .ref ht_copies, .ref ht_pages, .int (0:Int32)])), (ht_drops, .inl (cI, 4, .inl (fun _ => 0))), (ht_from, .inl (cI, 4, .inl (fun _ => 0))), (ht_to, .inl (cI, 4, .inl (fun _ => 0))), (ht_tires, .inl (cI, 4, .inl (fun _ => 0))), (ht_copies, .inl (cI, 4, .inl (fun _ => 0))), (ht_pages, .inl (cI, 4, .inl (fun _ => 0)))] H := hP
  have hD : va_D A [(ht, .inr (1, [.ref ht_drops, .ref ht_from, .ref ht_to, .ref ht_tires, .ref ht_copies, .ref ht_pages, .int (0:Int32)])), (ht_drops, .inl (cI, 4, .inl (fun _ => 0))), (ht_from, .inl (cI, 4, .inl (fun _ => 0))), (ht_to, .inl (cI, 4, .inl (fun _ => 0))), (ht_tires, .inl (cI, 4, .inl (fun _ => 0))), (ht_copies, .inl (cI, 4, .inl (fun _ => 0))), (ht_pages, .inl (cI, 4, .inl (fun _ => 0)))] := hD
  have hP9 := hP
  have hD9 := hD
  exact W.vret hx hb hr (fun t eth hW => ⟨⟨(), rfl, trivial, ht_drops, ht_from, ht_to, ht_tires, ht_copies, ht_pages, by rw [eth]; exact hP9, va_K.moved hW.alike hK, hD9⟩, hS.F eth⟩) hS.2.2 dX1_init_46
theorem hd_X2_init : yX2_init.cls ≠ "java/lang/invoke/MethodHandle" ∧ yX2_init.cls ≠ "java/lang/invoke/VarHandle" ∧ (parseMethodDescriptor yX2_init.desc).map (fun d => d.parameters.length) = some 0 := by decide +kernel
abbrev rm_X2_init : Room := { frames := 1, cells := 1, slots := 32, locals := 20 }
abbrev q_X2_init (dC : Nat → ClassId) (dI : Nat → Nat → Nat) (cI cJ cZ : ClassId) (ht : Nat) (A : Nat → Prop) : Array Value → State → Outcome → State → Prop := va_Qv (fun (_ : Unit) => True) (fun (_ : Unit) (t : State) => ∃ (ht_letters : Nat), va_P (dC, dI) vwCl [(ht, .inr (2, [.ref ht_letters, .int (0:Int32)])), (ht_letters, .inl (cI, 32, .inl (fun _ => 0)))] t.heap ∧ va_K (dC, dI) vwCl [(cI, .int), (cJ, .long), (cZ, .boolean)] t ∧ va_D A [(ht, .inr (2, [.ref ht_letters, .int (0:Int32)])), (ht_letters, .inl (cI, 32, .inl (fun _ => 0)))]) A
set_option maxHeartbeats 4000000 in
set_option maxRecDepth 100000 in
theorem k_X2_init (l : Launch) (dC : Nat → ClassId) (dI : Nat → Nat → Nat) (cI cJ cZ : ClassId) (sz ht : Nat) : Met l yX2_init wsX2_init rm_X2_init (va_Pc [.ref ht] (fun U => U.heap.size = sz ∧ va_P (dC, dI) vwCl [(ht, .inr (2, [.null, .int (0:Int32)]))] U.heap ∧ va_K (dC, dI) vwCl [(cI, .int), (cJ, .long), (cZ, .boolean)] U ∧ va_D (fun _ => True) [(ht, .inr (2, [.null, .int (0:Int32)]))])) (q_X2_init dC dI cI cJ cZ ht (va_A [(ht, .inr (2, [.null, .int (0:Int32)]))] sz)) 1 32 (va_A [(ht, .inr (2, [.null, .int (0:Int32)]))] sz) := by
  refine Met.ofW (cc := cX2_init) (maxL := 1) (ret := none) (by decide) rfl ?_
  intro p e s m args below meth c s₁ B hml hv
  obtain ⟨rfl, hsz, hP, hK, hD0⟩ := hv
  have hx := B.exec
  have hb := B.bytes
  have hr := B.returns
  have hts := atoms_spec (ws := wsX2_init) B.pre
  have hown : s.vm.findClass RX2 = some m.cls := findClass_of_methodNamed B.named
  have hlocks := B.notSynchronized
  have hin : meth.name = "<init>" := (name_of_methodNamed B.named B.method).1
  clear B
  subst hsz
  have hw0 := hts (.methodLink RX2 3 objectInit) (by decide +kernel)
  have hw1 := hts (.instanceMethod objectInit) (by decide +kernel)
  have hw2 := hts (.code objectInit ⟨#[0xb1]⟩ 1 none) (List.mem_of_getElem? (i := 3) rfl)
  have hw3 := hts (.arrayClass .int) (by decide +kernel)
  have hw4 := hts (.fieldLink RX2 9 "ShorthandCourt$CourtText" "letters" "[I") (by decide +kernel)
  have hinX2 : ∀ w ∈ u_ws RX2 TX2 2, w ∈ wsX2_init := by decide +kernel
  have hD := hD0.self (sz := s.heap.size)
  clear hD0
  generalize hAe : va_A [(ht, .inr (2, [.null, .int (0:Int32)]))] s.heap.size = A at hD ⊢
  have hA : ∀ q : Nat, s.heap.size ≤ q → A q := fun q h => by rw [← hAe]; exact Or.inr h
  clear hAe
  have hS : va_S A s.heap s.heap [] := va_S.rf
  have hl := lv_entry ([.ref ht]) (n := 1) (Nat.le_of_ble_eq_true rfl)
  rw [lg_entry_eq]
  generalize (lg_sl ([.ref ht]) ++ List.replicate (1 - (lg_sl ([.ref ht])).length) Slot.unset).toArray = ls at hl ⊢
  have hl : lv_has ls 1 [(0, .ref ht)] := hl
  refine lv_aload_n hx hb dX2_init_0 rfl (lv_at hl 0 rfl) ?_
  refine W.objInit hx hb hown hw0 hw1 hw2 rfl (by rw [hml]; exact hl.1) rfl dX2_init_1 (Nat.le_of_ble_eq_true rfl) (Nat.le_of_ble_eq_true rfl) ?_
  refine W.eq (g2 := F0 m 4 ls []) rfl ?_
  refine lv_aload_n hx hb dX2_init_4 rfl (lv_at hl 0 rfl) ?_
  refine lv_bipush (v := 32) hx hb dX2_init_5 (by decide) ?_
  refine va_newa (atype := .int) (ty := .int) (a0 := (32, .inl (fun _ => 0))) (N' := 32) hx hb hw3 rfl hK hP hD hS hA (fun cA => vp_cell_i cA 32 (fun _ => 0)) (by decide) (by decide +kernel) (by decide +kernel) (by show 0 + 1 ≤ 1; omega) (by show 0 + 32 ≤ 32; omega) dX2_init_7 (fun ht_letters cA H hK2 hP hD hS => ?_)
  obtain rfl : cI = cA := kt_eq hK2 0 3 rfl rfl (Or.inl rfl)
  clear hK2
  have hP : va_P (dC, dI) vwCl [(ht, .inr (2, [.null, .int (0:Int32)])), (ht_letters, .inl (cI, 32, .inl (fun _ => 0)))] H := hP
  have hD : va_D A [(ht, .inr (2, [.null, .int (0:Int32)])), (ht_letters, .inl (cI, 32, .inl (fun _ => 0)))] := hD
  refine W.widen (k := 1) (n := 32) (by omega) (by omega) ?_
  refine va_putF (D := (dC, dI)) (ci := 2) (v := .ref ht_letters) (ty := .array .int) (C := RX2) (T := TX2) (N := 2) hx hb hts hinX2 tyX2 tyX2_ok nmX2 hown hK hP hD hS 0 rfl rfl 0 (by decide) hw4 (fun _ h9 => h9) rfl hin rfl (by decide +kernel) rfl rfl (Nat.le_of_ble_eq_true rfl) dX2_init_9 (fun H locs hP hD hS => ?_)
  have hP : va_P (dC, dI) vwCl [(ht, .inr (2, [.ref ht_letters, .int (0:Int32)])), (ht_letters, .inl (cI, 32, .inl (fun _ => 0)))] H := hP
  have hD : va_D A [(ht, .inr (2, [.ref ht_letters, .int (0:Int32)])), (ht_letters, .inl (cI, 32, .inl (fun _ => 0)))] := hD
  have hP9 := hP
  have hD9 := hD
  exact W.vret hx hb hr (fun t eth hW => ⟨⟨(), rfl, trivial, ht_letters, by rw [eth]; exact hP9, va_K.moved hW.alike hK, hD9⟩, hS.F eth⟩) hS.2.2 dX2_init_12
theorem hd_X3_init : yX3_init.cls ≠ "java/lang/invoke/MethodHandle" ∧ yX3_init.cls ≠ "java/lang/invoke/VarHandle" ∧ (parseMethodDescriptor yX3_init.desc).map (fun d => d.parameters.length) = some 0 := by decide +kernel
abbrev rm_X3_init : Room := { frames := 1, cells := 1, slots := 2048, locals := 20 }
abbrev q_X3_init (dC : Nat → ClassId) (dI : Nat → Nat → Nat) (cI cJ cZ : ClassId) (ht : Nat) (A : Nat → Prop) : Array Value → State → Outcome → State → Prop := va_Qv (fun (_ : Unit) => True) (fun (_ : Unit) (t : State) => ∃ (ht_lying : Nat), va_P (dC, dI) vwCl [(ht, .inr (3, [.ref ht_lying])), (ht_lying, .inl (cJ, 2048, .inr (.inl (fun _ => 0))))] t.heap ∧ va_K (dC, dI) vwCl [(cI, .int), (cJ, .long), (cZ, .boolean)] t ∧ va_D A [(ht, .inr (3, [.ref ht_lying])), (ht_lying, .inl (cJ, 2048, .inr (.inl (fun _ => 0))))]) A
set_option maxHeartbeats 4000000 in
set_option maxRecDepth 100000 in
theorem k_X3_init (l : Launch) (dC : Nat → ClassId) (dI : Nat → Nat → Nat) (cI cJ cZ : ClassId) (sz ht : Nat) : Met l yX3_init wsX3_init rm_X3_init (va_Pc [.ref ht] (fun U => U.heap.size = sz ∧ va_P (dC, dI) vwCl [(ht, .inr (3, [.null]))] U.heap ∧ va_K (dC, dI) vwCl [(cI, .int), (cJ, .long), (cZ, .boolean)] U ∧ va_D (fun _ => True) [(ht, .inr (3, [.null]))])) (q_X3_init dC dI cI cJ cZ ht (va_A [(ht, .inr (3, [.null]))] sz)) 1 2048 (va_A [(ht, .inr (3, [.null]))] sz) := by
  refine Met.ofW (cc := cX3_init) (maxL := 1) (ret := none) (by decide) rfl ?_
  intro p e s m args below meth c s₁ B hml hv
  obtain ⟨rfl, hsz, hP, hK, hD0⟩ := hv
  have hx := B.exec
  have hb := B.bytes
  have hr := B.returns
  have hts := atoms_spec (ws := wsX3_init) B.pre
  have hown : s.vm.findClass RX3 = some m.cls := findClass_of_methodNamed B.named
  have hlocks := B.notSynchronized
  have hin : meth.name = "<init>" := (name_of_methodNamed B.named B.method).1
  clear B
  subst hsz
  have hw0 := hts (.methodLink RX3 5 objectInit) (by decide +kernel)
  have hw1 := hts (.instanceMethod objectInit) (by decide +kernel)
  have hw2 := hts (.code objectInit ⟨#[0xb1]⟩ 1 none) (List.mem_of_getElem? (i := 3) rfl)
  have hw3 := hts (.arrayClass .long) (by decide +kernel)
  have hw4 := hts (.fieldLink RX3 11 "ShorthandCourt$Drawers" "lying" "[J") (by decide +kernel)
  have hinX3 : ∀ w ∈ u_ws RX3 TX3 1, w ∈ wsX3_init := by decide +kernel
  have hD := hD0.self (sz := s.heap.size)
  clear hD0
  generalize hAe : va_A [(ht, .inr (3, [.null]))] s.heap.size = A at hD ⊢
  have hA : ∀ q : Nat, s.heap.size ≤ q → A q := fun q h => by rw [← hAe]; exact Or.inr h
  clear hAe
  have hS : va_S A s.heap s.heap [] := va_S.rf
  have hl := lv_entry ([.ref ht]) (n := 1) (Nat.le_of_ble_eq_true rfl)
  rw [lg_entry_eq]
  generalize (lg_sl ([.ref ht]) ++ List.replicate (1 - (lg_sl ([.ref ht])).length) Slot.unset).toArray = ls at hl ⊢
  have hl : lv_has ls 1 [(0, .ref ht)] := hl
  refine lv_aload_n hx hb dX3_init_0 rfl (lv_at hl 0 rfl) ?_
  refine W.objInit hx hb hown hw0 hw1 hw2 rfl (by rw [hml]; exact hl.1) rfl dX3_init_1 (Nat.le_of_ble_eq_true rfl) (Nat.le_of_ble_eq_true rfl) ?_
  refine W.eq (g2 := F0 m 4 ls []) rfl ?_
  refine lv_aload_n hx hb dX3_init_4 rfl (lv_at hl 0 rfl) ?_
  refine lv_sipush (v := 2048) hx hb dX3_init_5 (by decide) ?_
  refine va_newa (atype := .long) (ty := .long) (a0 := (2048, .inr (.inl (fun _ => 0)))) (N' := 2048) hx hb hw3 rfl hK hP hD hS hA (fun cA => vp_cell_l cA 2048 (fun _ => 0)) (by decide) (by decide +kernel) (by decide +kernel) (by show 0 + 1 ≤ 1; omega) (by show 0 + 2048 ≤ 2048; omega) dX3_init_8 (fun ht_lying cA H hK2 hP hD hS => ?_)
  obtain rfl : cJ = cA := kt_eq hK2 1 3 rfl rfl (Or.inr (Or.inl rfl))
  clear hK2
  have hP : va_P (dC, dI) vwCl [(ht, .inr (3, [.null])), (ht_lying, .inl (cJ, 2048, .inr (.inl (fun _ => 0))))] H := hP
  have hD : va_D A [(ht, .inr (3, [.null])), (ht_lying, .inl (cJ, 2048, .inr (.inl (fun _ => 0))))] := hD
  refine W.widen (k := 1) (n := 2048) (by omega) (by omega) ?_
  refine va_putF (D := (dC, dI)) (ci := 3) (v := .ref ht_lying) (ty := .array .long) (C := RX3) (T := TX3) (N := 1) hx hb hts hinX3 tyX3 tyX3_ok nmX3 hown hK hP hD hS 0 rfl rfl 0 (by decide) hw4 (fun _ h9 => h9) rfl hin rfl (by decide +kernel) rfl rfl (Nat.le_of_ble_eq_true rfl) dX3_init_10 (fun H locs hP hD hS => ?_)
  have hP : va_P (dC, dI) vwCl [(ht, .inr (3, [.ref ht_lying])), (ht_lying, .inl (cJ, 2048, .inr (.inl (fun _ => 0))))] H := hP
  have hD : va_D A [(ht, .inr (3, [.ref ht_lying])), (ht_lying, .inl (cJ, 2048, .inr (.inl (fun _ => 0))))] := hD
  have hP9 := hP
  have hD9 := hD
  exact W.vret hx hb hr (fun t eth hW => ⟨⟨(), rfl, trivial, ht_lying, by rw [eth]; exact hP9, va_K.moved hW.alike hK, hD9⟩, hS.F eth⟩) hS.2.2 dX3_init_13
