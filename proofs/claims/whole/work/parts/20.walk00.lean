theorem hd_X0_remember : yX0_remember.cls = RX0 ∧ yX0_remember.cls ≠ "java/lang/invoke/MethodHandle" ∧ yX0_remember.cls ≠ "java/lang/invoke/VarHandle" ∧ (parseMethodDescriptor yX0_remember.desc).map (fun d => d.parameters.length) = some 1 := by decide +kernel
abbrev rm_X0_remember : Room := { frames := 1, cells := 0, slots := 0, locals := 80 }
abbrev q_X0_remember (dC : Nat → ClassId) (dI : Nat → Nat → Nat) (cI cJ cZ : ClassId) (ht ht_before : Nat) (R : Int32 × (Nat → Int64)) (A : Nat → Prop) : Array Value → State → Outcome → State → Prop := va_Qv (fun (u : Int32 × (Nat → Int64)) => R = u) (fun (u : Int32 × (Nat → Int64)) (t : State) => va_P (dC, dI) vwCl [(ht, .inr (0, [.ref ht_before, .int u.1])), (ht_before, .inl (cJ, 16, .inr (.inl u.2)))] t.heap ∧ va_K (dC, dI) vwCl [(cI, .int), (cJ, .long), (cZ, .boolean)] t ∧ va_D A [(ht, .inr (0, [.ref ht_before, .int u.1])), (ht_before, .inl (cJ, 16, .inr (.inl u.2)))]) A
set_option maxHeartbeats 4000000 in
set_option maxRecDepth 100000 in
theorem k_X0_remember (l : Launch) (dC : Nat → ClassId) (dI : Nat → Nat → Nat) (cI cJ cZ : ClassId) (sz : Nat) (ht ht_before : Nat) (a1 : Int64) (vt_size : Int32) (vt_before : Nat → Int64) (N : Nat) (R : Int32 × (Nat → Int64)) (hf : f_X0_remember N a1 vt_size vt_before = some R) : Met l yX0_remember wsX0_remember (rm_X0_remember) (va_Pc [.ref ht, .long a1] (fun U => U.heap.size = sz ∧ va_P (dC, dI) vwCl [(ht, .inr (0, [.ref ht_before, .int vt_size])), (ht_before, .inl (cJ, 16, .inr (.inl vt_before)))] U.heap ∧ va_K (dC, dI) vwCl [(cI, .int), (cJ, .long), (cZ, .boolean)] U ∧ va_D (fun _ => True) [(ht, .inr (0, [.ref ht_before, .int vt_size])), (ht_before, .inl (cJ, 16, .inr (.inl vt_before)))])) (q_X0_remember dC dI cI cJ cZ ht ht_before R (va_A [(ht, .inr (0, [.ref ht_before, .int vt_size])), (ht_before, .inl (cJ, 16, .inr (.inl vt_before)))] sz)) 0 0 (va_A [(ht, .inr (0, [.ref ht_before, .int vt_size])), (ht_before, .inl (cJ, 16, .inr (.inl vt_before)))] sz) := by
  refine Met.ofW (cc := cX0_remember) (maxL := 3) (ret := none) (by decide) rfl ?_
  intro p e s m args below meth c s₁ B hml hv
  obtain ⟨rfl, hsz, hP, hK, hD0⟩ := hv
  have hx := B.exec
  have hb := B.bytes
  have hr := B.returns
  have hts := atoms_spec (ws := wsX0_remember) B.pre
  have hown : s.vm.findClass RX0 = some m.cls := findClass_of_methodNamed B.named
  have hlocks := B.notSynchronized
  clear B
  subst hsz
  have hw0 := hts (.fieldLink RX0 15 "ShorthandCourt$ActRow" "size" "I") (by decide +kernel)
  have hw1 := hts (.fieldLink RX0 9 "ShorthandCourt$ActRow" "before" "[J") (by decide +kernel)
  have hw2 := hts (.methodLink RX0 19 arraycopyName) (by decide +kernel)
  have hw3 := hts (.native arraycopyName) (by decide +kernel)
  have hw4 := hts (.static arraycopyName) (by decide +kernel)
  have hw5 := hts (.initialized "java/lang/System") (by decide +kernel)
  have hinX0 : ∀ w ∈ u_ws RX0 TX0 2, w ∈ wsX0_remember := by decide +kernel
  have hD := hD0.self (sz := s.heap.size)
  clear hD0
  generalize hAe : va_A [(ht, .inr (0, [.ref ht_before, .int vt_size])), (ht_before, .inl (cJ, 16, .inr (.inl vt_before)))] s.heap.size = A at hD ⊢
  have hA : ∀ q : Nat, s.heap.size ≤ q → A q := fun q h => by rw [← hAe]; exact Or.inr h
  clear hAe
  have hS : va_S A s.heap s.heap [] := va_S.rf
  have hl := lv_entry ([.ref ht, .long a1]) (n := 3) (Nat.le_of_ble_eq_true rfl)
  rw [lg_entry_eq]
  generalize (lg_sl ([.ref ht, .long a1]) ++ List.replicate (3 - (lg_sl ([.ref ht, .long a1])).length) Slot.unset).toArray = ls at hl ⊢
  have hl : lv_has ls 3 [(0, .ref ht), (1, .long a1)] := hl
  unfold f_X0_remember at hf
  refine lv_aload_n hx hb dX0_remember_0 rfl (lv_at hl 0 rfl) ?_
  refine va_get (D := (dC, dI)) (ci := 0) (v := .int vt_size) (C := RX0) (T := TX0) (N := 2) hx hb hts hinX0 hown hK hP 0 rfl rfl 1 (by decide) hw0 (fun _ h9 => h9) rfl dX0_remember_1 ?_
  refine lv_bipush (v := 16) hx hb dX0_remember_4 (by decide) ?_
  refine lv_icmp_lt (tgt := 30) hx hb dX0_remember_6 (by decide) (fun c1 => ?_) (fun c1 => ?_)
  · replace hf := dg_t c1 hf
    refine lv_aload_n hx hb dX0_remember_30 rfl (lv_at hl 0 rfl) ?_
    refine va_get (D := (dC, dI)) (ci := 0) (v := .ref ht_before) (C := RX0) (T := TX0) (N := 2) hx hb hts hinX0 hown hK hP 0 rfl rfl 0 (by decide) hw1 (fun _ h9 => h9) rfl dX0_remember_31 ?_
    refine lv_aload_n hx hb dX0_remember_34 rfl (lv_at hl 0 rfl) ?_
    refine va_get (D := (dC, dI)) (ci := 0) (v := .int vt_size) (C := RX0) (T := TX0) (N := 2) hx hb hts hinX0 hown hK hP 0 rfl rfl 1 (by decide) hw0 (fun _ h9 => h9) rfl dX0_remember_35 ?_
    refine lv_lload_n hx hb dX0_remember_38 rfl (lv_at hl 1 rfl) ?_
    obtain ⟨hi2, hf⟩ := dg_ix hf
    refine va_last hx hb hK hP hD hS 1 1 rfl rfl hi2 dX0_remember_39 (fun H locs hP hD hS => ?_)
    have hP : va_P (dC, dI) vwCl [(ht, .inr (0, [.ref ht_before, .int vt_size])), (ht_before, .inl (cJ, 16, .inr (.inl (vp_updL vt_before vt_size.toNatClampNeg a1))))] H := hP
    have hD : va_D A [(ht, .inr (0, [.ref ht_before, .int vt_size])), (ht_before, .inl (cJ, 16, .inr (.inl (vp_updL vt_before vt_size.toNatClampNeg a1))))] := hD
    refine lv_aload_n hx hb dX0_remember_40 rfl (lv_at hl 0 rfl) ?_
    refine lv_dup hx hb dX0_remember_41 rfl ?_
    refine va_get (D := (dC, dI)) (ci := 0) (v := .int vt_size) (C := RX0) (T := TX0) (N := 2) hx hb hts hinX0 hown hK hP 0 rfl rfl 1 (by decide) hw0 (fun _ h9 => h9) rfl dX0_remember_42 ?_
    refine lv_iconst (v := 1) hx hb dX0_remember_45 (by decide) ?_
    refine lv_iadd hx hb dX0_remember_46 ?_
    refine va_put (D := (dC, dI)) (ci := 0) (v := .int (vt_size + (1:Int32))) (ty := .int) (C := RX0) (T := TX0) (N := 2) hx hb hts hinX0 tyX0 tyX0_ok nmX0 hown hK hP hD hS 0 rfl rfl 1 (by decide) hw0 (fun _ h9 => h9) rfl (by decide +kernel) rfl rfl (Nat.le_of_ble_eq_true rfl) dX0_remember_47 (fun H locs hP hD hS => ?_)
    have hP : va_P (dC, dI) vwCl [(ht, .inr (0, [.ref ht_before, .int (vt_size + (1:Int32))])), (ht_before, .inl (cJ, 16, .inr (.inl (vp_updL vt_before vt_size.toNatClampNeg a1))))] H := hP
    have hD : va_D A [(ht, .inr (0, [.ref ht_before, .int (vt_size + (1:Int32))])), (ht_before, .inl (cJ, 16, .inr (.inl (vp_updL vt_before vt_size.toNatClampNeg a1))))] := hD
    have he := Option.some.inj hf
    have hP9 := hP
    have hD9 := hD
    exact W.vret hx hb hr (fun t eth hW => ⟨⟨((vt_size + (1:Int32)), (vp_updL vt_before vt_size.toNatClampNeg a1)), rfl, he.symm, by rw [eth]; exact hP9, va_K.moved hW.alike hK, hD9⟩, hS.F eth⟩) hS.2.2 dX0_remember_50
  · replace hf := dg_f c1 hf
    refine lv_aload_n hx hb dX0_remember_9 rfl (lv_at hl 0 rfl) ?_
    refine va_get (D := (dC, dI)) (ci := 0) (v := .ref ht_before) (C := RX0) (T := TX0) (N := 2) hx hb hts hinX0 hown hK hP 0 rfl rfl 0 (by decide) hw1 (fun _ h9 => h9) rfl dX0_remember_10 ?_
    refine lv_iconst (v := 1) hx hb dX0_remember_13 (by decide) ?_
    refine lv_aload_n hx hb dX0_remember_14 rfl (lv_at hl 0 rfl) ?_
    refine va_get (D := (dC, dI)) (ci := 0) (v := .ref ht_before) (C := RX0) (T := TX0) (N := 2) hx hb hts hinX0 hown hK hP 0 rfl rfl 0 (by decide) hw1 (fun _ h9 => h9) rfl dX0_remember_15 ?_
    refine lv_iconst (v := 0) hx hb dX0_remember_18 (by decide) ?_
    refine lv_bipush (v := 15) hx hb dX0_remember_19 (by decide) ?_
    refine va_copyl hx hb (by rw [hml]; exact hl.1.symm) hown hw2 hw3 hw4 hw5 hK hP hD hS 1 1 1 1 rfl rfl rfl rfl rfl (by decide) (by decide) (by decide) (by decide) (by decide) (fun _ _ => rfl) (Nat.le_of_ble_eq_true rfl) (by decide +kernel) dX0_remember_21 (fun H locs hP hD hS => ?_)
    have hP : va_P (dC, dI) vwCl [(ht, .inr (0, [.ref ht_before, .int vt_size])), (ht_before, .inl (cJ, 16, .inr (.inl (va_cpy vt_before vt_before 1 0 15))))] H := hP
    have hD : va_D A [(ht, .inr (0, [.ref ht_before, .int vt_size])), (ht_before, .inl (cJ, 16, .inr (.inl (va_cpy vt_before vt_before 1 0 15))))] := hD
    refine lv_aload_n hx hb dX0_remember_24 rfl (lv_at hl 0 rfl) ?_
    refine lv_bipush (v := 15) hx hb dX0_remember_25 (by decide) ?_
    refine va_put (D := (dC, dI)) (ci := 0) (v := .int (15:Int32)) (ty := .int) (C := RX0) (T := TX0) (N := 2) hx hb hts hinX0 tyX0 tyX0_ok nmX0 hown hK hP hD hS 0 rfl rfl 1 (by decide) hw0 (fun _ h9 => h9) rfl (by decide +kernel) rfl rfl (Nat.le_of_ble_eq_true rfl) dX0_remember_27 (fun H locs hP hD hS => ?_)
    have hP : va_P (dC, dI) vwCl [(ht, .inr (0, [.ref ht_before, .int (15:Int32)])), (ht_before, .inl (cJ, 16, .inr (.inl (va_cpy vt_before vt_before 1 0 15))))] H := hP
    have hD : va_D A [(ht, .inr (0, [.ref ht_before, .int (15:Int32)])), (ht_before, .inl (cJ, 16, .inr (.inl (va_cpy vt_before vt_before 1 0 15))))] := hD
    refine lv_aload_n hx hb dX0_remember_30 rfl (lv_at hl 0 rfl) ?_
    refine va_get (D := (dC, dI)) (ci := 0) (v := .ref ht_before) (C := RX0) (T := TX0) (N := 2) hx hb hts hinX0 hown hK hP 0 rfl rfl 0 (by decide) hw1 (fun _ h9 => h9) rfl dX0_remember_31 ?_
    refine lv_aload_n hx hb dX0_remember_34 rfl (lv_at hl 0 rfl) ?_
    refine va_get (D := (dC, dI)) (ci := 0) (v := .int (15:Int32)) (C := RX0) (T := TX0) (N := 2) hx hb hts hinX0 hown hK hP 0 rfl rfl 1 (by decide) hw0 (fun _ h9 => h9) rfl dX0_remember_35 ?_
    refine lv_lload_n hx hb dX0_remember_38 rfl (lv_at hl 1 rfl) ?_
    obtain ⟨hi3, hf⟩ := dg_ix hf
    refine va_last hx hb hK hP hD hS 1 1 rfl rfl hi3 dX0_remember_39 (fun H locs hP hD hS => ?_)
    have hP : va_P (dC, dI) vwCl [(ht, .inr (0, [.ref ht_before, .int (15:Int32)])), (ht_before, .inl (cJ, 16, .inr (.inl (vp_updL (va_cpy vt_before vt_before 1 0 15) (15:Int32).toNatClampNeg a1))))] H := hP
    have hD : va_D A [(ht, .inr (0, [.ref ht_before, .int (15:Int32)])), (ht_before, .inl (cJ, 16, .inr (.inl (vp_updL (va_cpy vt_before vt_before 1 0 15) (15:Int32).toNatClampNeg a1))))] := hD
    refine lv_aload_n hx hb dX0_remember_40 rfl (lv_at hl 0 rfl) ?_
    refine lv_dup hx hb dX0_remember_41 rfl ?_
    refine va_get (D := (dC, dI)) (ci := 0) (v := .int (15:Int32)) (C := RX0) (T := TX0) (N := 2) hx hb hts hinX0 hown hK hP 0 rfl rfl 1 (by decide) hw0 (fun _ h9 => h9) rfl dX0_remember_42 ?_
    refine lv_iconst (v := 1) hx hb dX0_remember_45 (by decide) ?_
    refine lv_iadd hx hb dX0_remember_46 ?_
    refine va_put (D := (dC, dI)) (ci := 0) (v := .int ((15:Int32) + (1:Int32))) (ty := .int) (C := RX0) (T := TX0) (N := 2) hx hb hts hinX0 tyX0 tyX0_ok nmX0 hown hK hP hD hS 0 rfl rfl 1 (by decide) hw0 (fun _ h9 => h9) rfl (by decide +kernel) rfl rfl (Nat.le_of_ble_eq_true rfl) dX0_remember_47 (fun H locs hP hD hS => ?_)
    have hP : va_P (dC, dI) vwCl [(ht, .inr (0, [.ref ht_before, .int ((15:Int32) + (1:Int32))])), (ht_before, .inl (cJ, 16, .inr (.inl (vp_updL (va_cpy vt_before vt_before 1 0 15) (15:Int32).toNatClampNeg a1))))] H := hP
    have hD : va_D A [(ht, .inr (0, [.ref ht_before, .int ((15:Int32) + (1:Int32))])), (ht_before, .inl (cJ, 16, .inr (.inl (vp_updL (va_cpy vt_before vt_before 1 0 15) (15:Int32).toNatClampNeg a1))))] := hD
    have he := Option.some.inj hf
    have hP9 := hP
    have hD9 := hD
    exact W.vret hx hb hr (fun t eth hW => ⟨⟨(((15:Int32) + (1:Int32)), (vp_updL (va_cpy vt_before vt_before 1 0 15) (15:Int32).toNatClampNeg a1)), rfl, he.symm, by rw [eth]; exact hP9, va_K.moved hW.alike hK, hD9⟩, hS.F eth⟩) hS.2.2 dX0_remember_50
theorem hd_X0_takeLast : yX0_takeLast.cls = RX0 ∧ yX0_takeLast.cls ≠ "java/lang/invoke/MethodHandle" ∧ yX0_takeLast.cls ≠ "java/lang/invoke/VarHandle" ∧ (parseMethodDescriptor yX0_takeLast.desc).map (fun d => d.parameters.length) = some 0 := by decide +kernel
abbrev rm_X0_takeLast : Room := { frames := 0, cells := 0, slots := 0, locals := 0 }
abbrev q_X0_takeLast (dC : Nat → ClassId) (dI : Nat → Nat → Nat) (cI cJ cZ : ClassId) (ht ht_before : Nat) (vt_before : Nat → Int64) (R : Int64 × Int32) (A : Nat → Prop) : Array Value → State → Outcome → State → Prop := va_Ql (fun (r : Int64) (u : Int32) => R.1 = r ∧ R.2 = u) (fun (u : Int32) (t : State) => va_P (dC, dI) vwCl [(ht, .inr (0, [.ref ht_before, .int u])), (ht_before, .inl (cJ, 16, .inr (.inl vt_before)))] t.heap ∧ va_K (dC, dI) vwCl [(cI, .int), (cJ, .long), (cZ, .boolean)] t ∧ va_D A [(ht, .inr (0, [.ref ht_before, .int u])), (ht_before, .inl (cJ, 16, .inr (.inl vt_before)))]) A
set_option maxHeartbeats 4000000 in
set_option maxRecDepth 100000 in
theorem k_X0_takeLast (l : Launch) (dC : Nat → ClassId) (dI : Nat → Nat → Nat) (cI cJ cZ : ClassId) (sz : Nat) (ht ht_before : Nat) (vt_size : Int32) (vt_before : Nat → Int64) (N : Nat) (R : Int64 × Int32) (hf : f_X0_takeLast N vt_size vt_before = some R) : Met l yX0_takeLast wsX0_takeLast (rm_X0_takeLast) (va_Pc [.ref ht] (fun U => U.heap.size = sz ∧ va_P (dC, dI) vwCl [(ht, .inr (0, [.ref ht_before, .int vt_size])), (ht_before, .inl (cJ, 16, .inr (.inl vt_before)))] U.heap ∧ va_K (dC, dI) vwCl [(cI, .int), (cJ, .long), (cZ, .boolean)] U ∧ va_D (fun _ => True) [(ht, .inr (0, [.ref ht_before, .int vt_size])), (ht_before, .inl (cJ, 16, .inr (.inl vt_before)))])) (q_X0_takeLast dC dI cI cJ cZ ht ht_before vt_before R (va_A [(ht, .inr (0, [.ref ht_before, .int vt_size])), (ht_before, .inl (cJ, 16, .inr (.inl vt_before)))] sz)) 0 0 (va_A [(ht, .inr (0, [.ref ht_before, .int vt_size])), (ht_before, .inl (cJ, 16, .inr (.inl vt_before)))] sz) := by
  refine Met.ofW (cc := cX0_takeLast) (maxL := 1) (ret := (some .long)) (by decide) rfl ?_
  intro p e s m args below meth c s₁ B hml hv
  obtain ⟨rfl, hsz, hP, hK, hD0⟩ := hv
  have hx := B.exec
  have hb := B.bytes
  have hr := B.returns
  have hts := atoms_spec (ws := wsX0_takeLast) B.pre
  have hown : s.vm.findClass RX0 = some m.cls := findClass_of_methodNamed B.named
  have hlocks := B.notSynchronized
  clear B
  subst hsz
  have hw0 := hts (.fieldLink RX0 15 "ShorthandCourt$ActRow" "size" "I") (by decide +kernel)
  have hw1 := hts (.fieldLink RX0 9 "ShorthandCourt$ActRow" "before" "[J") (by decide +kernel)
  have hinX0 : ∀ w ∈ u_ws RX0 TX0 2, w ∈ wsX0_takeLast := by decide +kernel
  have hD := hD0.self (sz := s.heap.size)
  clear hD0
  generalize hAe : va_A [(ht, .inr (0, [.ref ht_before, .int vt_size])), (ht_before, .inl (cJ, 16, .inr (.inl vt_before)))] s.heap.size = A at hD ⊢
  have hA : ∀ q : Nat, s.heap.size ≤ q → A q := fun q h => by rw [← hAe]; exact Or.inr h
  clear hAe
  have hS : va_S A s.heap s.heap [] := va_S.rf
  have hl := lv_entry ([.ref ht]) (n := 1) (Nat.le_of_ble_eq_true rfl)
  rw [lg_entry_eq]
  generalize (lg_sl ([.ref ht]) ++ List.replicate (1 - (lg_sl ([.ref ht])).length) Slot.unset).toArray = ls at hl ⊢
  have hl : lv_has ls 1 [(0, .ref ht)] := hl
  unfold f_X0_takeLast at hf
  refine lv_aload_n hx hb dX0_takeLast_0 rfl (lv_at hl 0 rfl) ?_
  refine va_get (D := (dC, dI)) (ci := 0) (v := .int vt_size) (C := RX0) (T := TX0) (N := 2) hx hb hts hinX0 hown hK hP 0 rfl rfl 1 (by decide) hw0 (fun _ h9 => h9) rfl dX0_takeLast_1 ?_
  refine lv_if_le (tgt := 17) hx hb dX0_takeLast_4 (by decide) (fun c1 => ?_) (fun c1 => ?_)
  · replace hf := dg_t c1 hf
    refine lv_aload_n hx hb dX0_takeLast_17 rfl (lv_at hl 0 rfl) ?_
    refine va_get (D := (dC, dI)) (ci := 0) (v := .ref ht_before) (C := RX0) (T := TX0) (N := 2) hx hb hts hinX0 hown hK hP 0 rfl rfl 0 (by decide) hw1 (fun _ h9 => h9) rfl dX0_takeLast_18 ?_
    refine lv_aload_n hx hb dX0_takeLast_21 rfl (lv_at hl 0 rfl) ?_
    refine va_get (D := (dC, dI)) (ci := 0) (v := .int vt_size) (C := RX0) (T := TX0) (N := 2) hx hb hts hinX0 hown hK hP 0 rfl rfl 1 (by decide) hw0 (fun _ h9 => h9) rfl dX0_takeLast_22 ?_
    obtain ⟨hi2, hf⟩ := dg_ix hf
    refine va_lald hx hb hK hP 1 1 rfl rfl hi2 dX0_takeLast_25 ?_
    have he := Option.some.inj hf
    have hP9 := hP
    have hD9 := hD
    exact W.lret (v := (vt_before vt_size.toNatClampNeg)) hx hb hr (fun t eth hW => ⟨⟨(vt_before vt_size.toNatClampNeg), vt_size, rfl, ⟨(congrArg Prod.fst he).symm, (congrArg Prod.snd he).symm⟩, by rw [eth]; exact hP9, va_K.moved hW.alike hK, hD9⟩, hS.F eth⟩) hS.2.2 dX0_takeLast_26
  · replace hf := dg_f c1 hf
    refine lv_aload_n hx hb dX0_takeLast_7 rfl (lv_at hl 0 rfl) ?_
    refine lv_dup hx hb dX0_takeLast_8 rfl ?_
    refine va_get (D := (dC, dI)) (ci := 0) (v := .int vt_size) (C := RX0) (T := TX0) (N := 2) hx hb hts hinX0 hown hK hP 0 rfl rfl 1 (by decide) hw0 (fun _ h9 => h9) rfl dX0_takeLast_9 ?_
    refine lv_iconst (v := 1) hx hb dX0_takeLast_12 (by decide) ?_
    refine lv_isub hx hb dX0_takeLast_13 ?_
    refine va_put (D := (dC, dI)) (ci := 0) (v := .int (vt_size - (1:Int32))) (ty := .int) (C := RX0) (T := TX0) (N := 2) hx hb hts hinX0 tyX0 tyX0_ok nmX0 hown hK hP hD hS 0 rfl rfl 1 (by decide) hw0 (fun _ h9 => h9) rfl (by decide +kernel) rfl rfl (Nat.le_of_ble_eq_true rfl) dX0_takeLast_14 (fun H locs hP hD hS => ?_)
    have hP : va_P (dC, dI) vwCl [(ht, .inr (0, [.ref ht_before, .int (vt_size - (1:Int32))])), (ht_before, .inl (cJ, 16, .inr (.inl vt_before)))] H := hP
    have hD : va_D A [(ht, .inr (0, [.ref ht_before, .int (vt_size - (1:Int32))])), (ht_before, .inl (cJ, 16, .inr (.inl vt_before)))] := hD
    refine lv_aload_n hx hb dX0_takeLast_17 rfl (lv_at hl 0 rfl) ?_
    refine va_get (D := (dC, dI)) (ci := 0) (v := .ref ht_before) (C := RX0) (T := TX0) (N := 2) hx hb hts hinX0 hown hK hP 0 rfl rfl 0 (by decide) hw1 (fun _ h9 => h9) rfl dX0_takeLast_18 ?_
    refine lv_aload_n hx hb dX0_takeLast_21 rfl (lv_at hl 0 rfl) ?_
    refine va_get (D := (dC, dI)) (ci := 0) (v := .int (vt_size - (1:Int32))) (C := RX0) (T := TX0) (N := 2) hx hb hts hinX0 hown hK hP 0 rfl rfl 1 (by decide) hw0 (fun _ h9 => h9) rfl dX0_takeLast_22 ?_
    obtain ⟨hi3, hf⟩ := dg_ix hf
    refine va_lald hx hb hK hP 1 1 rfl rfl hi3 dX0_takeLast_25 ?_
    have he := Option.some.inj hf
    have hP9 := hP
    have hD9 := hD
    exact W.lret (v := (vt_before (vt_size - (1:Int32)).toNatClampNeg)) hx hb hr (fun t eth hW => ⟨⟨(vt_before (vt_size - (1:Int32)).toNatClampNeg), (vt_size - (1:Int32)), rfl, ⟨(congrArg Prod.fst he).symm, (congrArg Prod.snd he).symm⟩, by rw [eth]; exact hP9, va_K.moved hW.alike hK, hD9⟩, hS.F eth⟩) hS.2.2 dX0_takeLast_26
theorem hd_X1_has : yX1_has.cls = RX1 ∧ yX1_has.cls ≠ "java/lang/invoke/MethodHandle" ∧ yX1_has.cls ≠ "java/lang/invoke/VarHandle" ∧ (parseMethodDescriptor yX1_has.desc).map (fun d => d.parameters.length) = some 1 := by decide +kernel
abbrev rm_X1_has : Room := { frames := 0, cells := 0, slots := 0, locals := 0 }
abbrev q_X1_has (dC : Nat → ClassId) (dI : Nat → Nat → Nat) (cI cJ cZ : ClassId) (ht ht_drops ht_from ht_to ht_tires ht_copies ht_pages : Nat) (vt_size : Int32) (R : Int32) (A : Nat → Prop) : Array Value → State → Outcome → State → Prop := va_Qi (fun (r : Int32) (_ : Unit) => R = r) (fun (u : Unit) (t : State) => va_P (dC, dI) vwCl [(ht, .inr (1, [.ref ht_drops, .ref ht_from, .ref ht_to, .ref ht_tires, .ref ht_copies, .ref ht_pages, .int vt_size]))] t.heap ∧ va_K (dC, dI) vwCl [(cI, .int), (cJ, .long), (cZ, .boolean)] t ∧ va_D A [(ht, .inr (1, [.ref ht_drops, .ref ht_from, .ref ht_to, .ref ht_tires, .ref ht_copies, .ref ht_pages, .int vt_size]))]) A
set_option maxHeartbeats 4000000 in
set_option maxRecDepth 100000 in
theorem k_X1_has (l : Launch) (dC : Nat → ClassId) (dI : Nat → Nat → Nat) (cI cJ cZ : ClassId) (sz : Nat) (ht ht_drops ht_from ht_to ht_tires ht_copies ht_pages : Nat) (a1 : Int32) (vt_size : Int32) (N : Nat) (R : Int32) (hf : f_X1_has N a1 vt_size = some R) : Met l yX1_has wsX1_has (rm_X1_has) (va_Pc [.ref ht, .int a1] (fun U => U.heap.size = sz ∧ va_P (dC, dI) vwCl [(ht, .inr (1, [.ref ht_drops, .ref ht_from, .ref ht_to, .ref ht_tires, .ref ht_copies, .ref ht_pages, .int vt_size]))] U.heap ∧ va_K (dC, dI) vwCl [(cI, .int), (cJ, .long), (cZ, .boolean)] U ∧ va_D (fun _ => True) [(ht, .inr (1, [.ref ht_drops, .ref ht_from, .ref ht_to, .ref ht_tires, .ref ht_copies, .ref ht_pages, .int vt_size]))])) (q_X1_has dC dI cI cJ cZ ht ht_drops ht_from ht_to ht_tires ht_copies ht_pages vt_size R (va_A [(ht, .inr (1, [.ref ht_drops, .ref ht_from, .ref ht_to, .ref ht_tires, .ref ht_copies, .ref ht_pages, .int vt_size]))] sz)) 0 0 (va_A [(ht, .inr (1, [.ref ht_drops, .ref ht_from, .ref ht_to, .ref ht_tires, .ref ht_copies, .ref ht_pages, .int vt_size]))] sz) := by
  refine Met.ofW (cc := cX1_has) (maxL := 2) (ret := (some .boolean)) (by decide) rfl ?_
  intro p e s m args below meth c s₁ B hml hv
  obtain ⟨rfl, hsz, hP, hK, hD0⟩ := hv
  have hx := B.exec
  have hb := B.bytes
  have hr := B.returns
  have hts := atoms_spec (ws := wsX1_has) B.pre
  have hown : s.vm.findClass RX1 = some m.cls := findClass_of_methodNamed B.named
  have hlocks := B.notSynchronized
  clear B
  subst hsz
  have hw0 := hts (.fieldLink RX1 30 "ShorthandCourt$Bench" "size" "I") (by decide +kernel)
  have hinX1 : ∀ w ∈ u_ws RX1 TX1 7, w ∈ wsX1_has := by decide +kernel
  have hD := hD0.self (sz := s.heap.size)
  clear hD0
  generalize hAe : va_A [(ht, .inr (1, [.ref ht_drops, .ref ht_from, .ref ht_to, .ref ht_tires, .ref ht_copies, .ref ht_pages, .int vt_size]))] s.heap.size = A at hD ⊢
  have hA : ∀ q : Nat, s.heap.size ≤ q → A q := fun q h => by rw [← hAe]; exact Or.inr h
  clear hAe
  have hS : va_S A s.heap s.heap [] := va_S.rf
  have hl := lv_entry ([.ref ht, .int a1]) (n := 2) (Nat.le_of_ble_eq_true rfl)
  rw [lg_entry_eq]
  generalize (lg_sl ([.ref ht, .int a1]) ++ List.replicate (2 - (lg_sl ([.ref ht, .int a1])).length) Slot.unset).toArray = ls at hl ⊢
  have hl : lv_has ls 2 [(0, .ref ht), (1, .int a1)] := hl
  unfold f_X1_has at hf
  refine lv_iload_n hx hb dX1_has_0 rfl (lv_at hl 1 rfl) ?_
  refine lv_if_lt (tgt := 16) hx hb dX1_has_1 (by decide) (fun c1 => ?_) (fun c1 => ?_)
  · replace hf := dg_t c1 hf
    refine lv_iconst (v := 0) hx hb dX1_has_16 (by decide) ?_
    have he := Option.some.inj hf
    have hP9 := hP
    have hD9 := hD
    exact W.zret (v := (0:Int32)) (ty := .boolean) hx hb hr (by decide) (fun t eth hW => ⟨⟨(0:Int32), (), rfl, he.symm, by rw [eth]; exact hP9, va_K.moved hW.alike hK, hD9⟩, hS.F eth⟩) hS.2.2 dX1_has_17
  · replace hf := dg_f c1 hf
    refine lv_iload_n hx hb dX1_has_4 rfl (lv_at hl 1 rfl) ?_
    refine lv_aload_n hx hb dX1_has_5 rfl (lv_at hl 0 rfl) ?_
    refine va_get (D := (dC, dI)) (ci := 1) (v := .int vt_size) (C := RX1) (T := TX1) (N := 7) hx hb hts hinX1 hown hK hP 0 rfl rfl 6 (by decide) hw0 (fun _ h9 => h9) rfl dX1_has_6 ?_
    refine lv_icmp_ge (tgt := 16) hx hb dX1_has_9 (by decide) (fun c2 => ?_) (fun c2 => ?_)
    · replace hf := dg_t c2 hf
      refine lv_iconst (v := 0) hx hb dX1_has_16 (by decide) ?_
      have he := Option.some.inj hf
      have hP9 := hP
      have hD9 := hD
      exact W.zret (v := (0:Int32)) (ty := .boolean) hx hb hr (by decide) (fun t eth hW => ⟨⟨(0:Int32), (), rfl, he.symm, by rw [eth]; exact hP9, va_K.moved hW.alike hK, hD9⟩, hS.F eth⟩) hS.2.2 dX1_has_17
    · replace hf := dg_f c2 hf
      refine lv_iconst (v := 1) hx hb dX1_has_12 (by decide) ?_
      refine lv_goto (tgt := 17) hx hb dX1_has_13 (by decide) ?_
      have he := Option.some.inj hf
      have hP9 := hP
      have hD9 := hD
      exact W.zret (v := (1:Int32)) (ty := .boolean) hx hb hr (by decide) (fun t eth hW => ⟨⟨(1:Int32), (), rfl, he.symm, by rw [eth]; exact hP9, va_K.moved hW.alike hK, hD9⟩, hS.F eth⟩) hS.2.2 dX1_has_17
theorem hd_X1_everybody : yX1_everybody.cls = RX1 ∧ yX1_everybody.cls ≠ "java/lang/invoke/MethodHandle" ∧ yX1_everybody.cls ≠ "java/lang/invoke/VarHandle" ∧ (parseMethodDescriptor yX1_everybody.desc).map (fun d => d.parameters.length) = some 0 := by decide +kernel
abbrev rm_X1_everybody : Room := { frames := 0, cells := 0, slots := 0, locals := 0 }
abbrev q_X1_everybody (dC : Nat → ClassId) (dI : Nat → Nat → Nat) (cI cJ cZ : ClassId) (ht ht_drops ht_from ht_to ht_tires ht_copies ht_pages : Nat) (vt_size : Int32) (R : Int32) (A : Nat → Prop) : Array Value → State → Outcome → State → Prop := va_Qi (fun (r : Int32) (_ : Unit) => R = r) (fun (u : Unit) (t : State) => va_P (dC, dI) vwCl [(ht, .inr (1, [.ref ht_drops, .ref ht_from, .ref ht_to, .ref ht_tires, .ref ht_copies, .ref ht_pages, .int vt_size]))] t.heap ∧ va_K (dC, dI) vwCl [(cI, .int), (cJ, .long), (cZ, .boolean)] t ∧ va_D A [(ht, .inr (1, [.ref ht_drops, .ref ht_from, .ref ht_to, .ref ht_tires, .ref ht_copies, .ref ht_pages, .int vt_size]))]) A
set_option maxHeartbeats 4000000 in
set_option maxRecDepth 100000 in
theorem k_X1_everybody (l : Launch) (dC : Nat → ClassId) (dI : Nat → Nat → Nat) (cI cJ cZ : ClassId) (sz : Nat) (ht ht_drops ht_from ht_to ht_tires ht_copies ht_pages : Nat) (vt_size : Int32) (N : Nat) (R : Int32) (hf : f_X1_everybody N vt_size = some R) : Met l yX1_everybody wsX1_everybody (rm_X1_everybody) (va_Pc [.ref ht] (fun U => U.heap.size = sz ∧ va_P (dC, dI) vwCl [(ht, .inr (1, [.ref ht_drops, .ref ht_from, .ref ht_to, .ref ht_tires, .ref ht_copies, .ref ht_pages, .int vt_size]))] U.heap ∧ va_K (dC, dI) vwCl [(cI, .int), (cJ, .long), (cZ, .boolean)] U ∧ va_D (fun _ => True) [(ht, .inr (1, [.ref ht_drops, .ref ht_from, .ref ht_to, .ref ht_tires, .ref ht_copies, .ref ht_pages, .int vt_size]))])) (q_X1_everybody dC dI cI cJ cZ ht ht_drops ht_from ht_to ht_tires ht_copies ht_pages vt_size R (va_A [(ht, .inr (1, [.ref ht_drops, .ref ht_from, .ref ht_to, .ref ht_tires, .ref ht_copies, .ref ht_pages, .int vt_size]))] sz)) 0 0 (va_A [(ht, .inr (1, [.ref ht_drops, .ref ht_from, .ref ht_to, .ref ht_tires, .ref ht_copies, .ref ht_pages, .int vt_size]))] sz) := by
  refine Met.ofW (cc := cX1_everybody) (maxL := 1) (ret := (some .int)) (by decide) rfl ?_
  intro p e s m args below meth c s₁ B hml hv
  obtain ⟨rfl, hsz, hP, hK, hD0⟩ := hv
  have hx := B.exec
  have hb := B.bytes
  have hr := B.returns
  have hts := atoms_spec (ws := wsX1_everybody) B.pre
  have hown : s.vm.findClass RX1 = some m.cls := findClass_of_methodNamed B.named
  have hlocks := B.notSynchronized
  clear B
  subst hsz
  have hw0 := hts (.fieldLink RX1 30 "ShorthandCourt$Bench" "size" "I") (by decide +kernel)
  have hinX1 : ∀ w ∈ u_ws RX1 TX1 7, w ∈ wsX1_everybody := by decide +kernel
  have hD := hD0.self (sz := s.heap.size)
  clear hD0
  generalize hAe : va_A [(ht, .inr (1, [.ref ht_drops, .ref ht_from, .ref ht_to, .ref ht_tires, .ref ht_copies, .ref ht_pages, .int vt_size]))] s.heap.size = A at hD ⊢
  have hA : ∀ q : Nat, s.heap.size ≤ q → A q := fun q h => by rw [← hAe]; exact Or.inr h
  clear hAe
  have hS : va_S A s.heap s.heap [] := va_S.rf
  have hl := lv_entry ([.ref ht]) (n := 1) (Nat.le_of_ble_eq_true rfl)
  rw [lg_entry_eq]
  generalize (lg_sl ([.ref ht]) ++ List.replicate (1 - (lg_sl ([.ref ht])).length) Slot.unset).toArray = ls at hl ⊢
  have hl : lv_has ls 1 [(0, .ref ht)] := hl
  unfold f_X1_everybody at hf
  refine lv_iconst (v := 1) hx hb dX1_everybody_0 (by decide) ?_
  refine lv_aload_n hx hb dX1_everybody_1 rfl (lv_at hl 0 rfl) ?_
  refine va_get (D := (dC, dI)) (ci := 1) (v := .int vt_size) (C := RX1) (T := TX1) (N := 7) hx hb hts hinX1 hown hK hP 0 rfl rfl 6 (by decide) hw0 (fun _ h9 => h9) rfl dX1_everybody_2 ?_
  refine lv_ishl hx hb dX1_everybody_5 ?_
  refine lv_iconst (v := 1) hx hb dX1_everybody_6 (by decide) ?_
  refine lv_isub hx hb dX1_everybody_7 ?_
  have he := Option.some.inj hf
  have hP9 := hP
  have hD9 := hD
  exact W.iret (v := (((1:Int32) <<< (vt_size &&& 31)) - (1:Int32))) hx hb hr (fun t eth hW => ⟨⟨(((1:Int32) <<< (vt_size &&& 31)) - (1:Int32)), (), rfl, he.symm, by rw [eth]; exact hP9, va_K.moved hW.alike hK, hD9⟩, hS.F eth⟩) hS.2.2 dX1_everybody_8
theorem hd_X2_clerksTold : yX2_clerksTold.cls = RX2 ∧ yX2_clerksTold.cls ≠ "java/lang/invoke/MethodHandle" ∧ yX2_clerksTold.cls ≠ "java/lang/invoke/VarHandle" ∧ (parseMethodDescriptor yX2_clerksTold.desc).map (fun d => d.parameters.length) = some 0 := by decide +kernel
abbrev rm_X2_clerksTold : Room := { frames := 0, cells := 0, slots := 0, locals := 0 }
abbrev q_X2_clerksTold (dC : Nat → ClassId) (dI : Nat → Nat → Nat) (cI cJ cZ : ClassId) (ht ht_letters : Nat) (vt_size : Int32) (R : Int32) (A : Nat → Prop) : Array Value → State → Outcome → State → Prop := va_Qi (fun (r : Int32) (_ : Unit) => R = r) (fun (u : Unit) (t : State) => va_P (dC, dI) vwCl [(ht, .inr (2, [.ref ht_letters, .int vt_size]))] t.heap ∧ va_K (dC, dI) vwCl [(cI, .int), (cJ, .long), (cZ, .boolean)] t ∧ va_D A [(ht, .inr (2, [.ref ht_letters, .int vt_size]))]) A
set_option maxHeartbeats 4000000 in
set_option maxRecDepth 100000 in
theorem k_X2_clerksTold (l : Launch) (dC : Nat → ClassId) (dI : Nat → Nat → Nat) (cI cJ cZ : ClassId) (sz : Nat) (ht ht_letters : Nat) (vt_size : Int32) (N : Nat) (R : Int32) (hf : f_X2_clerksTold N vt_size = some R) : Met l yX2_clerksTold wsX2_clerksTold (rm_X2_clerksTold) (va_Pc [.ref ht] (fun U => U.heap.size = sz ∧ va_P (dC, dI) vwCl [(ht, .inr (2, [.ref ht_letters, .int vt_size]))] U.heap ∧ va_K (dC, dI) vwCl [(cI, .int), (cJ, .long), (cZ, .boolean)] U ∧ va_D (fun _ => True) [(ht, .inr (2, [.ref ht_letters, .int vt_size]))])) (q_X2_clerksTold dC dI cI cJ cZ ht ht_letters vt_size R (va_A [(ht, .inr (2, [.ref ht_letters, .int vt_size]))] sz)) 0 0 (va_A [(ht, .inr (2, [.ref ht_letters, .int vt_size]))] sz) := by
  refine Met.ofW (cc := cX2_clerksTold) (maxL := 1) (ret := (some .int)) (by decide) rfl ?_
  intro p e s m args below meth c s₁ B hml hv
  obtain ⟨rfl, hsz, hP, hK, hD0⟩ := hv
  have hx := B.exec
  have hb := B.bytes
  have hr := B.returns
  have hts := atoms_spec (ws := wsX2_clerksTold) B.pre
  have hown : s.vm.findClass RX2 = some m.cls := findClass_of_methodNamed B.named
  have hlocks := B.notSynchronized
  clear B
  subst hsz
  have hw0 := hts (.fieldLink RX2 15 "ShorthandCourt$CourtText" "size" "I") (by decide +kernel)
  have hinX2 : ∀ w ∈ u_ws RX2 TX2 2, w ∈ wsX2_clerksTold := by decide +kernel
  have hD := hD0.self (sz := s.heap.size)
  clear hD0
  generalize hAe : va_A [(ht, .inr (2, [.ref ht_letters, .int vt_size]))] s.heap.size = A at hD ⊢
  have hA : ∀ q : Nat, s.heap.size ≤ q → A q := fun q h => by rw [← hAe]; exact Or.inr h
  clear hAe
  have hS : va_S A s.heap s.heap [] := va_S.rf
  have hl := lv_entry ([.ref ht]) (n := 1) (Nat.le_of_ble_eq_true rfl)
  rw [lg_entry_eq]
  generalize (lg_sl ([.ref ht]) ++ List.replicate (1 - (lg_sl ([.ref ht])).length) Slot.unset).toArray = ls at hl ⊢
  have hl : lv_has ls 1 [(0, .ref ht)] := hl
  unfold f_X2_clerksTold at hf
  refine lv_aload_n hx hb dX2_clerksTold_0 rfl (lv_at hl 0 rfl) ?_
  refine va_get (D := (dC, dI)) (ci := 2) (v := .int vt_size) (C := RX2) (T := TX2) (N := 2) hx hb hts hinX2 hown hK hP 0 rfl rfl 1 (by decide) hw0 (fun _ h9 => h9) rfl dX2_clerksTold_1 ?_
  refine lv_iconst (v := 1) hx hb dX2_clerksTold_4 (by decide) ?_
  refine lv_isub hx hb dX2_clerksTold_5 ?_
  refine lv_bipush (v := 6) hx hb dX2_clerksTold_6 (by decide) ?_
  refine lv_idiv hx hb dX2_clerksTold_8 (by decide) ?_
  have he := Option.some.inj hf
  have hP9 := hP
  have hD9 := hD
  exact W.iret (v := ((vt_size - (1:Int32)) / (6:Int32))) hx hb hr (fun t eth hW => ⟨⟨((vt_size - (1:Int32)) / (6:Int32)), (), rfl, he.symm, by rw [eth]; exact hP9, va_K.moved hW.alike hK, hD9⟩, hS.F eth⟩) hS.2.2 dX2_clerksTold_9
theorem hd_X2_letterOf : yX2_letterOf.cls = RX2 ∧ yX2_letterOf.cls ≠ "java/lang/invoke/MethodHandle" ∧ yX2_letterOf.cls ≠ "java/lang/invoke/VarHandle" ∧ (parseMethodDescriptor yX2_letterOf.desc).map (fun d => d.parameters.length) = some 2 := by decide +kernel
abbrev rm_X2_letterOf : Room := { frames := 0, cells := 0, slots := 0, locals := 0 }
abbrev q_X2_letterOf (dC : Nat → ClassId) (dI : Nat → Nat → Nat) (cI cJ cZ : ClassId) (ht ht_letters : Nat) (vt_size : Int32) (vt_letters : Nat → Int32) (R : Int32) (A : Nat → Prop) : Array Value → State → Outcome → State → Prop := va_Qi (fun (r : Int32) (_ : Unit) => R = r) (fun (u : Unit) (t : State) => va_P (dC, dI) vwCl [(ht, .inr (2, [.ref ht_letters, .int vt_size])), (ht_letters, .inl (cI, 32, .inl vt_letters))] t.heap ∧ va_K (dC, dI) vwCl [(cI, .int), (cJ, .long), (cZ, .boolean)] t ∧ va_D A [(ht, .inr (2, [.ref ht_letters, .int vt_size])), (ht_letters, .inl (cI, 32, .inl vt_letters))]) A
set_option maxHeartbeats 4000000 in
set_option maxRecDepth 100000 in
theorem k_X2_letterOf (l : Launch) (dC : Nat → ClassId) (dI : Nat → Nat → Nat) (cI cJ cZ : ClassId) (sz : Nat) (ht ht_letters : Nat) (a1 : Int32) (a2 : Int32) (vt_size : Int32) (vt_letters : Nat → Int32) (N : Nat) (R : Int32) (hf : f_X2_letterOf N a1 a2 vt_size vt_letters = some R) : Met l yX2_letterOf wsX2_letterOf (rm_X2_letterOf) (va_Pc [.ref ht, .int a1, .int a2] (fun U => U.heap.size = sz ∧ va_P (dC, dI) vwCl [(ht, .inr (2, [.ref ht_letters, .int vt_size])), (ht_letters, .inl (cI, 32, .inl vt_letters))] U.heap ∧ va_K (dC, dI) vwCl [(cI, .int), (cJ, .long), (cZ, .boolean)] U ∧ va_D (fun _ => True) [(ht, .inr (2, [.ref ht_letters, .int vt_size])), (ht_letters, .inl (cI, 32, .inl vt_letters))])) (q_X2_letterOf dC dI cI cJ cZ ht ht_letters vt_size vt_letters R (va_A [(ht, .inr (2, [.ref ht_letters, .int vt_size])), (ht_letters, .inl (cI, 32, .inl vt_letters))] sz)) 0 0 (va_A [(ht, .inr (2, [.ref ht_letters, .int vt_size])), (ht_letters, .inl (cI, 32, .inl vt_letters))] sz) := by
  refine Met.ofW (cc := cX2_letterOf) (maxL := 4) (ret := (some .int)) (by decide) rfl ?_
  intro p e s m args below meth c s₁ B hml hv
  obtain ⟨rfl, hsz, hP, hK, hD0⟩ := hv
  have hx := B.exec
  have hb := B.bytes
  have hr := B.returns
  have hts := atoms_spec (ws := wsX2_letterOf) B.pre
  have hown : s.vm.findClass RX2 = some m.cls := findClass_of_methodNamed B.named
  have hlocks := B.notSynchronized
  clear B
  subst hsz
  have hw0 := hts (.fieldLink RX2 15 "ShorthandCourt$CourtText" "size" "I") (by decide +kernel)
  have hw1 := hts (.fieldLink RX2 9 "ShorthandCourt$CourtText" "letters" "[I") (by decide +kernel)
  have hinX2 : ∀ w ∈ u_ws RX2 TX2 2, w ∈ wsX2_letterOf := by decide +kernel
  have hD := hD0.self (sz := s.heap.size)
  clear hD0
  generalize hAe : va_A [(ht, .inr (2, [.ref ht_letters, .int vt_size])), (ht_letters, .inl (cI, 32, .inl vt_letters))] s.heap.size = A at hD ⊢
  have hA : ∀ q : Nat, s.heap.size ≤ q → A q := fun q h => by rw [← hAe]; exact Or.inr h
  clear hAe
  have hS : va_S A s.heap s.heap [] := va_S.rf
  have hl := lv_entry ([.ref ht, .int a1, .int a2]) (n := 4) (Nat.le_of_ble_eq_true rfl)
  rw [lg_entry_eq]
  generalize (lg_sl ([.ref ht, .int a1, .int a2]) ++ List.replicate (4 - (lg_sl ([.ref ht, .int a1, .int a2])).length) Slot.unset).toArray = ls at hl ⊢
  have hl : lv_has ls 4 [(0, .ref ht), (1, .int a1), (2, .int a2)] := hl
  unfold f_X2_letterOf at hf
  refine lv_iconst (v := 1) hx hb dX2_letterOf_0 (by decide) ?_
  refine lv_bipush (v := 6) hx hb dX2_letterOf_1 (by decide) ?_
  refine lv_iload_n hx hb dX2_letterOf_3 rfl (lv_at hl 1 rfl) ?_
  refine lv_imul hx hb dX2_letterOf_4 ?_
  refine lv_iadd hx hb dX2_letterOf_5 ?_
  refine lv_iload_n hx hb dX2_letterOf_6 rfl (lv_at hl 2 rfl) ?_
  refine lv_iadd hx hb dX2_letterOf_7 ?_
  refine lv_istore_n (lv' := [(3, .int (((1:Int32) + ((6:Int32) * a1)) + a2)), (0, .ref ht), (1, .int a1), (2, .int a2)]) hx hb dX2_letterOf_8 rfl hl (by decide) rfl (fun ls hl => ?_)
  refine lv_iload_n hx hb dX2_letterOf_9 rfl (lv_at hl 0 rfl) ?_
  refine lv_if_lt (tgt := 30) hx hb dX2_letterOf_10 (by decide) (fun c1 => ?_) (fun c1 => ?_)
  · replace hf := dg_t c1 hf
    refine lv_bipush (v := 45) hx hb dX2_letterOf_30 (by decide) ?_
    have he := Option.some.inj hf
    have hP9 := hP
    have hD9 := hD
    exact W.iret (v := (45:Int32)) hx hb hr (fun t eth hW => ⟨⟨(45:Int32), (), rfl, he.symm, by rw [eth]; exact hP9, va_K.moved hW.alike hK, hD9⟩, hS.F eth⟩) hS.2.2 dX2_letterOf_32
  · replace hf := dg_f c1 hf
    refine lv_iload_n hx hb dX2_letterOf_13 rfl (lv_at hl 0 rfl) ?_
    refine lv_aload_n hx hb dX2_letterOf_14 rfl (lv_at hl 1 rfl) ?_
    refine va_get (D := (dC, dI)) (ci := 2) (v := .int vt_size) (C := RX2) (T := TX2) (N := 2) hx hb hts hinX2 hown hK hP 0 rfl rfl 1 (by decide) hw0 (fun _ h9 => h9) rfl dX2_letterOf_15 ?_
    refine lv_icmp_ge (tgt := 30) hx hb dX2_letterOf_18 (by decide) (fun c2 => ?_) (fun c2 => ?_)
    · replace hf := dg_t c2 hf
      refine lv_bipush (v := 45) hx hb dX2_letterOf_30 (by decide) ?_
      have he := Option.some.inj hf
      have hP9 := hP
      have hD9 := hD
      exact W.iret (v := (45:Int32)) hx hb hr (fun t eth hW => ⟨⟨(45:Int32), (), rfl, he.symm, by rw [eth]; exact hP9, va_K.moved hW.alike hK, hD9⟩, hS.F eth⟩) hS.2.2 dX2_letterOf_32
    · replace hf := dg_f c2 hf
      refine lv_aload_n hx hb dX2_letterOf_21 rfl (lv_at hl 1 rfl) ?_
      refine va_get (D := (dC, dI)) (ci := 2) (v := .ref ht_letters) (C := RX2) (T := TX2) (N := 2) hx hb hts hinX2 hown hK hP 0 rfl rfl 0 (by decide) hw1 (fun _ h9 => h9) rfl dX2_letterOf_22 ?_
      refine lv_iload_n hx hb dX2_letterOf_25 rfl (lv_at hl 0 rfl) ?_
      obtain ⟨hi3, hf⟩ := dg_ix hf
      refine va_iald hx hb hK hP 1 0 rfl rfl hi3 dX2_letterOf_26 ?_
      refine lv_goto (tgt := 32) hx hb dX2_letterOf_27 (by decide) ?_
      have he := Option.some.inj hf
      have hP9 := hP
      have hD9 := hD
      exact W.iret (v := (vt_letters (((1:Int32) + ((6:Int32) * a1)) + a2).toNatClampNeg)) hx hb hr (fun t eth hW => ⟨⟨(vt_letters (((1:Int32) + ((6:Int32) * a1)) + a2).toNatClampNeg), (), rfl, he.symm, by rw [eth]; exact hP9, va_K.moved hW.alike hK, hD9⟩, hS.F eth⟩) hS.2.2 dX2_letterOf_32
theorem hd_X1_noneOrFrom : yX1_noneOrFrom.cls ≠ "java/lang/invoke/MethodHandle" ∧ yX1_noneOrFrom.cls ≠ "java/lang/invoke/VarHandle" ∧ (parseMethodDescriptor yX1_noneOrFrom.desc).map (fun d => d.parameters.length) = some 2 := by decide +kernel
abbrev rm_X1_noneOrFrom : Room := { frames := 0, cells := 0, slots := 0, locals := 0 }
abbrev q_X1_noneOrFrom (dC : Nat → ClassId) (dI : Nat → Nat → Nat) (cI cJ cZ : ClassId) (R : Int32) (A : Nat → Prop) : Array Value → State → Outcome → State → Prop := va_Qi (fun (r : Int32) (_ : Unit) => R = r) (fun (u : Unit) (t : State) => va_P (dC, dI) vwCl [] t.heap ∧ va_K (dC, dI) vwCl [(cI, .int), (cJ, .long), (cZ, .boolean)] t ∧ va_D A []) A
set_option maxHeartbeats 4000000 in
set_option maxRecDepth 100000 in
theorem k_X1_noneOrFrom (l : Launch) (dC : Nat → ClassId) (dI : Nat → Nat → Nat) (cI cJ cZ : ClassId) (sz : Nat) (a0 : Int32) (a1 : Int32) (N : Nat) (R : Int32) (hf : f_X1_noneOrFrom N a0 a1 = some R) : Met l yX1_noneOrFrom wsX1_noneOrFrom (rm_X1_noneOrFrom) (va_Pc [.int a0, .int a1] (fun U => U.heap.size = sz ∧ va_P (dC, dI) vwCl [] U.heap ∧ va_K (dC, dI) vwCl [(cI, .int), (cJ, .long), (cZ, .boolean)] U ∧ va_D (fun _ => True) [])) (q_X1_noneOrFrom dC dI cI cJ cZ  R (va_A [] sz)) 0 0 (va_A [] sz) := by
  refine Met.ofW (cc := cX1_noneOrFrom) (maxL := 2) (ret := (some .int)) (by decide) rfl ?_
  intro p e s m args below meth c s₁ B hml hv
  obtain ⟨rfl, hsz, hP, hK, hD0⟩ := hv
  have hx := B.exec
  have hb := B.bytes
  have hr := B.returns
  have hts := atoms_spec (ws := wsX1_noneOrFrom) B.pre
  have hown : s.vm.findClass RX1 = some m.cls := findClass_of_methodNamed B.named
  have hlocks := B.notSynchronized
  clear B
  subst hsz
  have hD := hD0.self (sz := s.heap.size)
  clear hD0
  generalize hAe : va_A [] s.heap.size = A at hD ⊢
  have hA : ∀ q : Nat, s.heap.size ≤ q → A q := fun q h => by rw [← hAe]; exact Or.inr h
  clear hAe
  have hS : va_S A s.heap s.heap [] := va_S.rf
  have hl := lv_entry ([.int a0, .int a1]) (n := 2) (Nat.le_of_ble_eq_true rfl)
  rw [lg_entry_eq]
  generalize (lg_sl ([.int a0, .int a1]) ++ List.replicate (2 - (lg_sl ([.int a0, .int a1])).length) Slot.unset).toArray = ls at hl ⊢
  have hl : lv_has ls 2 [(0, .int a0), (1, .int a1)] := hl
  unfold f_X1_noneOrFrom at hf
  refine lv_iload_n hx hb dX1_noneOrFrom_0 rfl (lv_at hl 0 rfl) ?_
  refine lv_bipush (v := 45) hx hb dX1_noneOrFrom_1 (by decide) ?_
  refine lv_icmp_ne (tgt := 10) hx hb dX1_noneOrFrom_3 (by decide) (fun c1 => ?_) (fun c1 => ?_)
  · replace hf := dg_f c1 hf
    refine lv_iload_n hx hb dX1_noneOrFrom_10 rfl (lv_at hl 0 rfl) ?_
    refine lv_iload_n hx hb dX1_noneOrFrom_11 rfl (lv_at hl 1 rfl) ?_
    refine lv_isub hx hb dX1_noneOrFrom_12 ?_
    refine lv_iconst (v := 1) hx hb dX1_noneOrFrom_13 (by decide) ?_
    refine lv_iadd hx hb dX1_noneOrFrom_14 ?_
    have he := Option.some.inj hf
    have hP9 := hP
    have hD9 := hD
    exact W.iret (v := ((a0 - a1) + (1:Int32))) hx hb hr (fun t eth hW => ⟨⟨((a0 - a1) + (1:Int32)), (), rfl, he.symm, by rw [eth]; exact hP9, va_K.moved hW.alike hK, hD9⟩, hS.F eth⟩) hS.2.2 dX1_noneOrFrom_15
  · replace hf := dg_t c1 hf
    refine lv_iconst (v := 0) hx hb dX1_noneOrFrom_6 (by decide) ?_
    refine lv_goto (tgt := 15) hx hb dX1_noneOrFrom_7 (by decide) ?_
    have he := Option.some.inj hf
    have hP9 := hP
    have hD9 := hD
    exact W.iret (v := (0:Int32)) hx hb hr (fun t eth hW => ⟨⟨(0:Int32), (), rfl, he.symm, by rw [eth]; exact hP9, va_K.moved hW.alike hK, hD9⟩, hS.F eth⟩) hS.2.2 dX1_noneOrFrom_15
theorem hd_X1_readFrom : yX1_readFrom.cls = RX1 ∧ yX1_readFrom.cls ≠ "java/lang/invoke/MethodHandle" ∧ yX1_readFrom.cls ≠ "java/lang/invoke/VarHandle" ∧ (parseMethodDescriptor yX1_readFrom.desc).map (fun d => d.parameters.length) = some 1 := by decide +kernel
abbrev rm_X1_readFrom : Room := { frames := 1, cells := 0, slots := 0, locals := 30 }
abbrev q_X1_readFrom (dC : Nat → ClassId) (dI : Nat → Nat → Nat) (cI cJ cZ : ClassId) (ht ht_drops ht_from ht_to ht_tires ht_copies ht_pages hp0 hp0_letters : Nat) (vp0_size : Int32) (vp0_letters : Nat → Int32) (R : Int32 × (Nat → Int32) × (Nat → Int32) × (Nat → Int32) × (Nat → Int32) × (Nat → Int32)) (A : Nat → Prop) : Array Value → State → Outcome → State → Prop := va_Qv (fun (u : Int32 × (Nat → Int32) × (Nat → Int32) × (Nat → Int32) × (Nat → Int32) × (Nat → Int32)) => R = u) (fun (u : Int32 × (Nat → Int32) × (Nat → Int32) × (Nat → Int32) × (Nat → Int32) × (Nat → Int32)) (t : State) => va_P (dC, dI) vwCl [(ht, .inr (1, [.ref ht_drops, .ref ht_from, .ref ht_to, .ref ht_tires, .ref ht_copies, .ref ht_pages, .int u.1])), (ht_drops, .inl (cI, 4, .inl u.2.1)), (ht_from, .inl (cI, 4, .inl u.2.2.1)), (ht_to, .inl (cI, 4, .inl u.2.2.2.1)), (ht_tires, .inl (cI, 4, .inl u.2.2.2.2.1)), (ht_copies, .inl (cI, 4, .inl u.2.2.2.2.2)), (hp0, .inr (2, [.ref hp0_letters, .int vp0_size])), (hp0_letters, .inl (cI, 32, .inl vp0_letters))] t.heap ∧ va_K (dC, dI) vwCl [(cI, .int), (cJ, .long), (cZ, .boolean)] t ∧ va_D A [(ht, .inr (1, [.ref ht_drops, .ref ht_from, .ref ht_to, .ref ht_tires, .ref ht_copies, .ref ht_pages, .int u.1])), (ht_drops, .inl (cI, 4, .inl u.2.1)), (ht_from, .inl (cI, 4, .inl u.2.2.1)), (ht_to, .inl (cI, 4, .inl u.2.2.2.1)), (ht_tires, .inl (cI, 4, .inl u.2.2.2.2.1)), (ht_copies, .inl (cI, 4, .inl u.2.2.2.2.2)), (hp0, .inr (2, [.ref hp0_letters, .int vp0_size])), (hp0_letters, .inl (cI, 32, .inl vp0_letters))]) A
set_option maxHeartbeats 4000000 in
set_option maxRecDepth 100000 in
theorem k_X1_readFrom (l : Launch) (dC : Nat → ClassId) (dI : Nat → Nat → Nat) (cI cJ cZ : ClassId) (sz : Nat) (ht ht_drops ht_from ht_to ht_tires ht_copies ht_pages hp0 hp0_letters : Nat) (vt_size : Int32) (vt_drops : Nat → Int32) (vt_from : Nat → Int32) (vt_to : Nat → Int32) (vt_tires : Nat → Int32) (vt_copies : Nat → Int32) (vp0_size : Int32) (vp0_letters : Nat → Int32) (N : Nat) (R : Int32 × (Nat → Int32) × (Nat → Int32) × (Nat → Int32) × (Nat → Int32) × (Nat → Int32)) (hf : f_X1_readFrom N vt_size vt_drops vt_from vt_to vt_tires vt_copies vp0_size vp0_letters = some R) : Met l yX1_readFrom wsX1_readFrom (rm_X1_readFrom) (va_Pc [.ref ht, .ref hp0] (fun U => U.heap.size = sz ∧ va_P (dC, dI) vwCl [(ht, .inr (1, [.ref ht_drops, .ref ht_from, .ref ht_to, .ref ht_tires, .ref ht_copies, .ref ht_pages, .int vt_size])), (ht_drops, .inl (cI, 4, .inl vt_drops)), (ht_from, .inl (cI, 4, .inl vt_from)), (ht_to, .inl (cI, 4, .inl vt_to)), (ht_tires, .inl (cI, 4, .inl vt_tires)), (ht_copies, .inl (cI, 4, .inl vt_copies)), (hp0, .inr (2, [.ref hp0_letters, .int vp0_size])), (hp0_letters, .inl (cI, 32, .inl vp0_letters))] U.heap ∧ va_K (dC, dI) vwCl [(cI, .int), (cJ, .long), (cZ, .boolean)] U ∧ va_D (fun _ => True) [(ht, .inr (1, [.ref ht_drops, .ref ht_from, .ref ht_to, .ref ht_tires, .ref ht_copies, .ref ht_pages, .int vt_size])), (ht_drops, .inl (cI, 4, .inl vt_drops)), (ht_from, .inl (cI, 4, .inl vt_from)), (ht_to, .inl (cI, 4, .inl vt_to)), (ht_tires, .inl (cI, 4, .inl vt_tires)), (ht_copies, .inl (cI, 4, .inl vt_copies)), (hp0, .inr (2, [.ref hp0_letters, .int vp0_size])), (hp0_letters, .inl (cI, 32, .inl vp0_letters))])) (q_X1_readFrom dC dI cI cJ cZ ht ht_drops ht_from ht_to ht_tires ht_copies ht_pages hp0 hp0_letters vp0_size vp0_letters R (va_A [(ht, .inr (1, [.ref ht_drops, .ref ht_from, .ref ht_to, .ref ht_tires, .ref ht_copies, .ref ht_pages, .int vt_size])), (ht_drops, .inl (cI, 4, .inl vt_drops)), (ht_from, .inl (cI, 4, .inl vt_from)), (ht_to, .inl (cI, 4, .inl vt_to)), (ht_tires, .inl (cI, 4, .inl vt_tires)), (ht_copies, .inl (cI, 4, .inl vt_copies)), (hp0, .inr (2, [.ref hp0_letters, .int vp0_size])), (hp0_letters, .inl (cI, 32, .inl vp0_letters))] sz)) 0 0 (va_A [(ht, .inr (1, [.ref ht_drops, .ref ht_from, .ref ht_to, .ref ht_tires, .ref ht_copies, .ref ht_pages, .int vt_size])), (ht_drops, .inl (cI, 4, .inl vt_drops)), (ht_from, .inl (cI, 4, .inl vt_from)), (ht_to, .inl (cI, 4, .inl vt_to)), (ht_tires, .inl (cI, 4, .inl vt_tires)), (ht_copies, .inl (cI, 4, .inl vt_copies)), (hp0, .inr (2, [.ref hp0_letters, .int vp0_size])), (hp0_letters, .inl (cI, 32, .inl vp0_letters))] sz) := by
  refine Met.ofW (cc := cX1_readFrom) (maxL := 3) (ret := none) (by decide) rfl ?_
  intro p e s m args below meth c s₁ B hml hv
  obtain ⟨rfl, hsz, hP, hK, hD0⟩ := hv
  have hx := B.exec
  have hb := B.bytes
  have hr := B.returns
  have hts := atoms_spec (ws := wsX1_readFrom) B.pre
  have hown : s.vm.findClass RX1 = some m.cls := findClass_of_methodNamed B.named
  have hlocks := B.notSynchronized
  clear B
  subst hsz
  have hw0 := hts (.methodLink RX1 40 Lib.Math.min.name) (by decide +kernel)
  have hw1 := hts (.static Lib.Math.min.name) (by decide +kernel)
  have hw2 := hts (.initialized "java/lang/Math") (by decide +kernel)
  have hw3 := hts (.code Lib.Math.min.name Lib.Math.min.code 2 (some .int)) (List.mem_of_getElem? (i := 4) rfl)
  have hw4 := hts (.fieldLink RX1 30 "ShorthandCourt$Bench" "size" "I") (by decide +kernel)
  have hw5 := hts (.fieldLink RX1 9 "ShorthandCourt$Bench" "drops" "[I") (by decide +kernel)
  have hw6 := hts (.fieldLink RX1 15 "ShorthandCourt$Bench" "from" "[I") (by decide +kernel)
  have hw7 := hts (.fieldLink RX1 18 "ShorthandCourt$Bench" "to" "[I") (by decide +kernel)
  have hw8 := hts (.fieldLink RX1 21 "ShorthandCourt$Bench" "tires" "[I") (by decide +kernel)
  have hw9 := hts (.fieldLink RX1 24 "ShorthandCourt$Bench" "copies" "[I") (by decide +kernel)
  have hinX1 : ∀ w ∈ u_ws RX1 TX1 7, w ∈ wsX1_readFrom := by decide +kernel
  have hD := hD0.self (sz := s.heap.size)
  clear hD0
  generalize hAe : va_A [(ht, .inr (1, [.ref ht_drops, .ref ht_from, .ref ht_to, .ref ht_tires, .ref ht_copies, .ref ht_pages, .int vt_size])), (ht_drops, .inl (cI, 4, .inl vt_drops)), (ht_from, .inl (cI, 4, .inl vt_from)), (ht_to, .inl (cI, 4, .inl vt_to)), (ht_tires, .inl (cI, 4, .inl vt_tires)), (ht_copies, .inl (cI, 4, .inl vt_copies)), (hp0, .inr (2, [.ref hp0_letters, .int vp0_size])), (hp0_letters, .inl (cI, 32, .inl vp0_letters))] s.heap.size = A at hD ⊢
  have hA : ∀ q : Nat, s.heap.size ≤ q → A q := fun q h => by rw [← hAe]; exact Or.inr h
  clear hAe
  have hS : va_S A s.heap s.heap [] := va_S.rf
  have hl := lv_entry ([.ref ht, .ref hp0]) (n := 3) (Nat.le_of_ble_eq_true rfl)
  rw [lg_entry_eq]
  generalize (lg_sl ([.ref ht, .ref hp0]) ++ List.replicate (3 - (lg_sl ([.ref ht, .ref hp0])).length) Slot.unset).toArray = ls at hl ⊢
  have hl : lv_has ls 3 [(0, .ref ht), (1, .ref hp0)] := hl
  unfold f_X1_readFrom at hf
  refine lv_aload_n hx hb dX1_readFrom_0 rfl (lv_at hl 0 rfl) ?_
  refine lv_aload_n hx hb dX1_readFrom_1 rfl (lv_at hl 1 rfl) ?_
  obtain ⟨x1, hx1, hf⟩ := dg_bind hf
  have hPc : va_P (dC, dI) vwCl [(hp0, .inr (2, [.ref hp0_letters, .int vp0_size]))] s.heap := hP.sub [6] rfl
  have hDc : va_D A [(hp0, .inr (2, [.ref hp0_letters, .int vp0_size]))] := hD.sub [6] (by decide) rfl
  have hFc := va_free (wc := [(hp0, .inr (2, [.ref hp0_letters, .int vp0_size]))]) hD hS hA [6] rfl
  refine va_calli (va_runV (As := []) (rest := [.ref ht]) ⟨hx, hb, hml, hown, hts⟩ (k_X2_clerksTold l dC dI cI cJ cZ s.heap.size hp0 hp0_letters vp0_size N x1 hx1) (cwV 0 hts gX1_readFrom_X2_clerksTold rfl rfl rfl hd_X2_clerksTold ⟨Nat.le_of_ble_eq_true rfl, Nat.le_of_ble_eq_true rfl⟩) ⟨blind_pc, va_recv hK hPc (ci := 2) (q0 := 0) rfl rfl, pre_pc hPc hK hDc⟩ rfl rfl hl.1 rfl (lv_room (Nat.le_of_ble_eq_true rfl)) dX1_readFrom_2 ⟨Nat.zero_le _, Nat.zero_le _⟩) hS (fun q _ h => hFc q h) hFc (fun r u t H1 locs eth hvm hw hB hz1 hk1 hS => ?_)
  obtain ⟨hP1, hK1, hD1⟩ := hB
  rw [eth] at hP1
  subst hw
  obtain ⟨hP, hD⟩ := va_join (wr := [(ht, .inr (1, [.ref ht_drops, .ref ht_from, .ref ht_to, .ref ht_tires, .ref ht_copies, .ref ht_pages, .int vt_size])), (ht_drops, .inl (cI, 4, .inl vt_drops)), (ht_from, .inl (cI, 4, .inl vt_from)), (ht_to, .inl (cI, 4, .inl vt_to)), (ht_tires, .inl (cI, 4, .inl vt_tires)), (ht_copies, .inl (cI, 4, .inl vt_copies)), (hp0_letters, .inl (cI, 32, .inl vp0_letters))]) (w1 := [(hp0, .inr (2, [.ref hp0_letters, .int vp0_size]))]) hP hD [6] [0, 1, 2, 3, 4, 5, 7] rfl rfl (by decide) (by decide) hk1 hFc hP1 hD1
  clear hP1 hK1 hD1 hPc hDc hFc hk1 hz1 hvm eth
  generalize H1 = H at hP hS ⊢
  have hP : va_P (dC, dI) vwCl [(ht, .inr (1, [.ref ht_drops, .ref ht_from, .ref ht_to, .ref ht_tires, .ref ht_copies, .ref ht_pages, .int vt_size])), (ht_drops, .inl (cI, 4, .inl vt_drops)), (ht_from, .inl (cI, 4, .inl vt_from)), (ht_to, .inl (cI, 4, .inl vt_to)), (ht_tires, .inl (cI, 4, .inl vt_tires)), (ht_copies, .inl (cI, 4, .inl vt_copies)), (hp0_letters, .inl (cI, 32, .inl vp0_letters)), (hp0, .inr (2, [.ref hp0_letters, .int vp0_size]))] H := hP
  have hD : va_D A [(ht, .inr (1, [.ref ht_drops, .ref ht_from, .ref ht_to, .ref ht_tires, .ref ht_copies, .ref ht_pages, .int vt_size])), (ht_drops, .inl (cI, 4, .inl vt_drops)), (ht_from, .inl (cI, 4, .inl vt_from)), (ht_to, .inl (cI, 4, .inl vt_to)), (ht_tires, .inl (cI, 4, .inl vt_tires)), (ht_copies, .inl (cI, 4, .inl vt_copies)), (hp0_letters, .inl (cI, 32, .inl vp0_letters)), (hp0, .inr (2, [.ref hp0_letters, .int vp0_size]))] := hD
  refine lv_iconst (v := 4) hx hb dX1_readFrom_5 (by decide) ?_
  refine va_mmin hx hb (by rw [hml]; exact hl.1.symm) hown hw0 hw1 hw2 hw3 (Nat.le_of_ble_eq_true rfl) (Nat.le_of_ble_eq_true rfl) (Nat.zero_le _) (Nat.zero_le _) dX1_readFrom_6 ?_
  refine va_put (D := (dC, dI)) (ci := 1) (v := .int (if (4:Int32) < x1 then (4:Int32) else x1)) (ty := .int) (C := RX1) (T := TX1) (N := 7) hx hb hts hinX1 tyX1 tyX1_ok nmX1 hown hK hP hD hS 0 rfl rfl 6 (by decide) hw4 (fun _ h9 => h9) rfl (by decide +kernel) rfl rfl (Nat.le_of_ble_eq_true rfl) dX1_readFrom_9 (fun H locs hP hD hS => ?_)
  have hP : va_P (dC, dI) vwCl [(ht, .inr (1, [.ref ht_drops, .ref ht_from, .ref ht_to, .ref ht_tires, .ref ht_copies, .ref ht_pages, .int (if (4:Int32) < x1 then (4:Int32) else x1)])), (ht_drops, .inl (cI, 4, .inl vt_drops)), (ht_from, .inl (cI, 4, .inl vt_from)), (ht_to, .inl (cI, 4, .inl vt_to)), (ht_tires, .inl (cI, 4, .inl vt_tires)), (ht_copies, .inl (cI, 4, .inl vt_copies)), (hp0_letters, .inl (cI, 32, .inl vp0_letters)), (hp0, .inr (2, [.ref hp0_letters, .int vp0_size]))] H := hP
  have hD : va_D A [(ht, .inr (1, [.ref ht_drops, .ref ht_from, .ref ht_to, .ref ht_tires, .ref ht_copies, .ref ht_pages, .int (if (4:Int32) < x1 then (4:Int32) else x1)])), (ht_drops, .inl (cI, 4, .inl vt_drops)), (ht_from, .inl (cI, 4, .inl vt_from)), (ht_to, .inl (cI, 4, .inl vt_to)), (ht_tires, .inl (cI, 4, .inl vt_tires)), (ht_copies, .inl (cI, 4, .inl vt_copies)), (hp0_letters, .inl (cI, 32, .inl vp0_letters)), (hp0, .inr (2, [.ref hp0_letters, .int vp0_size]))] := hD
  refine lv_iconst (v := 0) hx hb dX1_readFrom_12 (by decide) ?_
  refine lv_istore_n (lv' := [(2, .int (0:Int32)), (0, .ref ht), (1, .ref hp0)]) hx hb dX1_readFrom_13 rfl hl (by decide) rfl (fun ls hl => ?_)
  have ex14 : ∀ (z2_14 : Int32) (zvt_drops_14 : (Nat → Int32)) (zvt_from_14 : (Nat → Int32)) (zvt_to_14 : (Nat → Int32)) (zvt_tires_14 : (Nat → Int32)) (zvt_copies_14 : (Nat → Int32)) (H : Heap) (locs : List Loc) (ls : Array Slot), va_P (dC, dI) vwCl [(ht, .inr (1, [.ref ht_drops, .ref ht_from, .ref ht_to, .ref ht_tires, .ref ht_copies, .ref ht_pages, .int (if (4:Int32) < x1 then (4:Int32) else x1)])), (ht_drops, .inl (cI, 4, .inl zvt_drops_14)), (ht_from, .inl (cI, 4, .inl zvt_from_14)), (ht_to, .inl (cI, 4, .inl zvt_to_14)), (ht_tires, .inl (cI, 4, .inl zvt_tires_14)), (ht_copies, .inl (cI, 4, .inl zvt_copies_14)), (hp0_letters, .inl (cI, 32, .inl vp0_letters)), (hp0, .inr (2, [.ref hp0_letters, .int vp0_size]))] H → va_D A [(ht, .inr (1, [.ref ht_drops, .ref ht_from, .ref ht_to, .ref ht_tires, .ref ht_copies, .ref ht_pages, .int (if (4:Int32) < x1 then (4:Int32) else x1)])), (ht_drops, .inl (cI, 4, .inl zvt_drops_14)), (ht_from, .inl (cI, 4, .inl zvt_from_14)), (ht_to, .inl (cI, 4, .inl zvt_to_14)), (ht_tires, .inl (cI, 4, .inl zvt_tires_14)), (ht_copies, .inl (cI, 4, .inl zvt_copies_14)), (hp0_letters, .inl (cI, 32, .inl vp0_letters)), (hp0, .inr (2, [.ref hp0_letters, .int vp0_size]))] → va_S A s.heap H locs → lv_has ls 3 [(2, .int z2_14), (0, .ref ht), (1, .ref hp0)] → (some ((if (4:Int32) < x1 then (4:Int32) else x1), zvt_drops_14, zvt_from_14, zvt_to_14, zvt_tires_14, zvt_copies_14)) = some R → W p l e (rm_X1_readFrom) s m ([.ref ht, .ref hp0] : List Value).toArray below meth c H locs 0 0 (MQ below (q_X1_readFrom dC dI cI cJ cZ ht ht_drops ht_from ht_to ht_tires ht_copies ht_pages hp0 hp0_letters vp0_size vp0_letters R A) ([.ref ht, .ref hp0] : List Value).toArray s 0 0 A) (F0 m 108 ls []) := by
    intro z2_14 zvt_drops_14 zvt_from_14 zvt_to_14 zvt_tires_14 zvt_copies_14 H locs ls hP hD hS hl hf
    have he := Option.some.inj hf
    have hP9 := (hP.sub (ws' := [(ht, .inr (1, [.ref ht_drops, .ref ht_from, .ref ht_to, .ref ht_tires, .ref ht_copies, .ref ht_pages, .int (if (4:Int32) < x1 then (4:Int32) else x1)])), (ht_drops, .inl (cI, 4, .inl zvt_drops_14)), (ht_from, .inl (cI, 4, .inl zvt_from_14)), (ht_to, .inl (cI, 4, .inl zvt_to_14)), (ht_tires, .inl (cI, 4, .inl zvt_tires_14)), (ht_copies, .inl (cI, 4, .inl zvt_copies_14)), (hp0, .inr (2, [.ref hp0_letters, .int vp0_size])), (hp0_letters, .inl (cI, 32, .inl vp0_letters))]) [0, 1, 2, 3, 4, 5, 7, 6] rfl)
    have hD9 := (hD.sub (ws' := [(ht, .inr (1, [.ref ht_drops, .ref ht_from, .ref ht_to, .ref ht_tires, .ref ht_copies, .ref ht_pages, .int (if (4:Int32) < x1 then (4:Int32) else x1)])), (ht_drops, .inl (cI, 4, .inl zvt_drops_14)), (ht_from, .inl (cI, 4, .inl zvt_from_14)), (ht_to, .inl (cI, 4, .inl zvt_to_14)), (ht_tires, .inl (cI, 4, .inl zvt_tires_14)), (ht_copies, .inl (cI, 4, .inl zvt_copies_14)), (hp0, .inr (2, [.ref hp0_letters, .int vp0_size])), (hp0_letters, .inl (cI, 32, .inl vp0_letters))]) [0, 1, 2, 3, 4, 5, 7, 6] (by decide) rfl)
    exact W.vret hx hb hr (fun t eth hW => ⟨⟨((if (4:Int32) < x1 then (4:Int32) else x1), zvt_drops_14, zvt_from_14, zvt_to_14, zvt_tires_14, zvt_copies_14), rfl, he.symm, by rw [eth]; exact hP9, va_K.moved hW.alike hK, hD9⟩, hS.F eth⟩) hS.2.2 dX1_readFrom_108
  have lp14 : ∀ (n14 : Nat) (y2_14 : Int32) (yvt_drops_14 : (Nat → Int32)) (yvt_from_14 : (Nat → Int32)) (yvt_to_14 : (Nat → Int32)) (yvt_tires_14 : (Nat → Int32)) (yvt_copies_14 : (Nat → Int32)) (H : Heap) (locs : List Loc) (ls : Array Slot), va_P (dC, dI) vwCl [(ht, .inr (1, [.ref ht_drops, .ref ht_from, .ref ht_to, .ref ht_tires, .ref ht_copies, .ref ht_pages, .int (if (4:Int32) < x1 then (4:Int32) else x1)])), (ht_drops, .inl (cI, 4, .inl yvt_drops_14)), (ht_from, .inl (cI, 4, .inl yvt_from_14)), (ht_to, .inl (cI, 4, .inl yvt_to_14)), (ht_tires, .inl (cI, 4, .inl yvt_tires_14)), (ht_copies, .inl (cI, 4, .inl yvt_copies_14)), (hp0_letters, .inl (cI, 32, .inl vp0_letters)), (hp0, .inr (2, [.ref hp0_letters, .int vp0_size]))] H → va_D A [(ht, .inr (1, [.ref ht_drops, .ref ht_from, .ref ht_to, .ref ht_tires, .ref ht_copies, .ref ht_pages, .int (if (4:Int32) < x1 then (4:Int32) else x1)])), (ht_drops, .inl (cI, 4, .inl yvt_drops_14)), (ht_from, .inl (cI, 4, .inl yvt_from_14)), (ht_to, .inl (cI, 4, .inl yvt_to_14)), (ht_tires, .inl (cI, 4, .inl yvt_tires_14)), (ht_copies, .inl (cI, 4, .inl yvt_copies_14)), (hp0_letters, .inl (cI, 32, .inl vp0_letters)), (hp0, .inr (2, [.ref hp0_letters, .int vp0_size]))] → va_S A s.heap H locs → lv_has ls 3 [(2, .int y2_14), (0, .ref ht), (1, .ref hp0)] → f_X1_readFrom_14 N vp0_size vp0_letters (fun z2_14 zvt_drops_14 zvt_from_14 zvt_to_14 zvt_tires_14 zvt_copies_14 => some ((if (4:Int32) < x1 then (4:Int32) else x1), zvt_drops_14, zvt_from_14, zvt_to_14, zvt_tires_14, zvt_copies_14)) n14 y2_14 yvt_drops_14 yvt_from_14 yvt_to_14 yvt_tires_14 yvt_copies_14 = some R → W p l e (rm_X1_readFrom) s m ([.ref ht, .ref hp0] : List Value).toArray below meth c H locs 0 0 (MQ below (q_X1_readFrom dC dI cI cJ cZ ht ht_drops ht_from ht_to ht_tires ht_copies ht_pages hp0 hp0_letters vp0_size vp0_letters R A) ([.ref ht, .ref hp0] : List Value).toArray s 0 0 A) (F0 m 14 ls []) := by
    intro n14
    induction n14 with
    | zero => intro y2_14 yvt_drops_14 yvt_from_14 yvt_to_14 yvt_tires_14 yvt_copies_14 H locs ls hP hD hS hl hf; rw [f_X1_readFrom_14] at hf; cases hf
    | succ n14 ih14 =>
      intro y2_14 yvt_drops_14 yvt_from_14 yvt_to_14 yvt_tires_14 yvt_copies_14 H locs ls hP hD hS hl hf
      rw [f_X1_readFrom_14] at hf
      refine lv_iload_n hx hb dX1_readFrom_14 rfl (lv_at hl 0 rfl) ?_
      refine lv_iconst (v := 4) hx hb dX1_readFrom_15 (by decide) ?_
      refine lv_icmp_ge (tgt := 108) hx hb dX1_readFrom_16 (by decide) (fun c2 => ?_) (fun c2 => ?_)
      · replace hf := dg_t c2 hf
        exact ex14 y2_14 yvt_drops_14 yvt_from_14 yvt_to_14 yvt_tires_14 yvt_copies_14 _ _ _ hP hD hS (lv_sub hl [0, 1, 2] rfl) hf
      · replace hf := dg_f c2 hf
        refine lv_aload_n hx hb dX1_readFrom_19 rfl (lv_at hl 1 rfl) ?_
        refine va_get (D := (dC, dI)) (ci := 1) (v := .ref ht_drops) (C := RX1) (T := TX1) (N := 7) hx hb hts hinX1 hown hK hP 0 rfl rfl 0 (by decide) hw5 (fun _ h9 => h9) rfl dX1_readFrom_20 ?_
        refine lv_iload_n hx hb dX1_readFrom_23 rfl (lv_at hl 0 rfl) ?_
        refine lv_aload_n hx hb dX1_readFrom_24 rfl (lv_at hl 2 rfl) ?_
        refine lv_iload_n hx hb dX1_readFrom_25 rfl (lv_at hl 0 rfl) ?_
        refine lv_iconst (v := 1) hx hb dX1_readFrom_26 (by decide) ?_
        obtain ⟨x3, hx3, hf⟩ := dg_bind hf
        have hPc : va_P (dC, dI) vwCl [(hp0, .inr (2, [.ref hp0_letters, .int vp0_size])), (hp0_letters, .inl (cI, 32, .inl vp0_letters))] H := hP.sub [7, 6] rfl
        have hDc : va_D A [(hp0, .inr (2, [.ref hp0_letters, .int vp0_size])), (hp0_letters, .inl (cI, 32, .inl vp0_letters))] := hD.sub [7, 6] (by decide) rfl
        have hFc := va_free (wc := [(hp0, .inr (2, [.ref hp0_letters, .int vp0_size])), (hp0_letters, .inl (cI, 32, .inl vp0_letters))]) hD hS hA [7, 6] rfl
        refine va_calli (va_runV (As := [.int y2_14, .int (1:Int32)]) (rest := [.int y2_14, .ref ht_drops]) ⟨hx, hb, hml, hown, hts⟩ (k_X2_letterOf l dC dI cI cJ cZ H.size hp0 hp0_letters y2_14 (1:Int32) vp0_size vp0_letters N x3 hx3) (cwV 2 hts gX1_readFrom_X2_letterOf rfl rfl rfl hd_X2_letterOf ⟨Nat.le_of_ble_eq_true rfl, Nat.le_of_ble_eq_true rfl⟩) ⟨blind_pc, va_recv hK hPc (ci := 2) (q0 := 0) rfl rfl, pre_pc hPc hK hDc⟩ rfl rfl hl.1 rfl (lv_room (Nat.le_of_ble_eq_true rfl)) dX1_readFrom_27 ⟨Nat.zero_le _, Nat.zero_le _⟩) hS (fun q _ h => hFc q h) hFc (fun r u t H1 locs eth hvm hw hB hz1 hk1 hS => ?_)
        obtain ⟨hP1, hK1, hD1⟩ := hB
        rw [eth] at hP1
        subst hw
        obtain ⟨hP, hD⟩ := va_join (wr := [(ht, .inr (1, [.ref ht_drops, .ref ht_from, .ref ht_to, .ref ht_tires, .ref ht_copies, .ref ht_pages, .int (if (4:Int32) < x1 then (4:Int32) else x1)])), (ht_drops, .inl (cI, 4, .inl yvt_drops_14)), (ht_from, .inl (cI, 4, .inl yvt_from_14)), (ht_to, .inl (cI, 4, .inl yvt_to_14)), (ht_tires, .inl (cI, 4, .inl yvt_tires_14)), (ht_copies, .inl (cI, 4, .inl yvt_copies_14))]) (w1 := [(hp0, .inr (2, [.ref hp0_letters, .int vp0_size])), (hp0_letters, .inl (cI, 32, .inl vp0_letters))]) hP hD [7, 6] [0, 1, 2, 3, 4, 5] rfl rfl (by decide) (by decide) hk1 hFc hP1 hD1
        clear hP1 hK1 hD1 hPc hDc hFc hk1 hz1 hvm eth
        generalize H1 = H at hP hS ⊢
        have hP : va_P (dC, dI) vwCl [(ht, .inr (1, [.ref ht_drops, .ref ht_from, .ref ht_to, .ref ht_tires, .ref ht_copies, .ref ht_pages, .int (if (4:Int32) < x1 then (4:Int32) else x1)])), (ht_drops, .inl (cI, 4, .inl yvt_drops_14)), (ht_from, .inl (cI, 4, .inl yvt_from_14)), (ht_to, .inl (cI, 4, .inl yvt_to_14)), (ht_tires, .inl (cI, 4, .inl yvt_tires_14)), (ht_copies, .inl (cI, 4, .inl yvt_copies_14)), (hp0, .inr (2, [.ref hp0_letters, .int vp0_size])), (hp0_letters, .inl (cI, 32, .inl vp0_letters))] H := hP
        have hD : va_D A [(ht, .inr (1, [.ref ht_drops, .ref ht_from, .ref ht_to, .ref ht_tires, .ref ht_copies, .ref ht_pages, .int (if (4:Int32) < x1 then (4:Int32) else x1)])), (ht_drops, .inl (cI, 4, .inl yvt_drops_14)), (ht_from, .inl (cI, 4, .inl yvt_from_14)), (ht_to, .inl (cI, 4, .inl yvt_to_14)), (ht_tires, .inl (cI, 4, .inl yvt_tires_14)), (ht_copies, .inl (cI, 4, .inl yvt_copies_14)), (hp0, .inr (2, [.ref hp0_letters, .int vp0_size])), (hp0_letters, .inl (cI, 32, .inl vp0_letters))] := hD
        refine lv_bipush (v := 97) hx hb dX1_readFrom_30 (by decide) ?_
        obtain ⟨x4, hx4, hf⟩ := dg_bind hf
        have hPc : va_P (dC, dI) vwCl [] H := hP.sub [] rfl
        have hDc : va_D A [] := hD.sub [] (by decide) rfl
        have hFc := va_free (wc := []) hD hS hA [] rfl
        refine va_calli (va_runS (As := [.int x3, .int (97:Int32)]) (rest := [.int y2_14, .ref ht_drops]) ⟨hx, hb, hml, hown, hts⟩ (k_X1_noneOrFrom l dC dI cI cJ cZ H.size x3 (97:Int32) N x4 hx4) (va_cwS 2 hts gX1_readFrom_X1_noneOrFrom rfl rfl rfl hd_X1_noneOrFrom ⟨Nat.le_of_ble_eq_true rfl, Nat.le_of_ble_eq_true rfl⟩) ⟨blind_pc, pre_pc hPc hK hDc⟩ rfl rfl hl.1 rfl (lv_room (Nat.le_of_ble_eq_true rfl)) dX1_readFrom_32 ⟨Nat.zero_le _, Nat.zero_le _⟩) hS (fun q _ h => hFc q h) hFc (fun r u t H1 locs eth hvm hw hB hz1 hk1 hS => ?_)
        obtain ⟨hP1, hK1, hD1⟩ := hB
        rw [eth] at hP1
        subst hw
        obtain ⟨hP, hD⟩ := va_join (wr := [(ht, .inr (1, [.ref ht_drops, .ref ht_from, .ref ht_to, .ref ht_tires, .ref ht_copies, .ref ht_pages, .int (if (4:Int32) < x1 then (4:Int32) else x1)])), (ht_drops, .inl (cI, 4, .inl yvt_drops_14)), (ht_from, .inl (cI, 4, .inl yvt_from_14)), (ht_to, .inl (cI, 4, .inl yvt_to_14)), (ht_tires, .inl (cI, 4, .inl yvt_tires_14)), (ht_copies, .inl (cI, 4, .inl yvt_copies_14)), (hp0, .inr (2, [.ref hp0_letters, .int vp0_size])), (hp0_letters, .inl (cI, 32, .inl vp0_letters))]) (w1 := []) hP hD [] [0, 1, 2, 3, 4, 5, 6, 7] rfl rfl (by decide) (by decide) hk1 hFc hP1 hD1
        clear hP1 hK1 hD1 hPc hDc hFc hk1 hz1 hvm eth
        generalize H1 = H at hP hS ⊢
        have hP : va_P (dC, dI) vwCl [(ht, .inr (1, [.ref ht_drops, .ref ht_from, .ref ht_to, .ref ht_tires, .ref ht_copies, .ref ht_pages, .int (if (4:Int32) < x1 then (4:Int32) else x1)])), (ht_drops, .inl (cI, 4, .inl yvt_drops_14)), (ht_from, .inl (cI, 4, .inl yvt_from_14)), (ht_to, .inl (cI, 4, .inl yvt_to_14)), (ht_tires, .inl (cI, 4, .inl yvt_tires_14)), (ht_copies, .inl (cI, 4, .inl yvt_copies_14)), (hp0, .inr (2, [.ref hp0_letters, .int vp0_size])), (hp0_letters, .inl (cI, 32, .inl vp0_letters))] H := hP
        have hD : va_D A [(ht, .inr (1, [.ref ht_drops, .ref ht_from, .ref ht_to, .ref ht_tires, .ref ht_copies, .ref ht_pages, .int (if (4:Int32) < x1 then (4:Int32) else x1)])), (ht_drops, .inl (cI, 4, .inl yvt_drops_14)), (ht_from, .inl (cI, 4, .inl yvt_from_14)), (ht_to, .inl (cI, 4, .inl yvt_to_14)), (ht_tires, .inl (cI, 4, .inl yvt_tires_14)), (ht_copies, .inl (cI, 4, .inl yvt_copies_14)), (hp0, .inr (2, [.ref hp0_letters, .int vp0_size])), (hp0_letters, .inl (cI, 32, .inl vp0_letters))] := hD
        obtain ⟨hi5, hf⟩ := dg_ix hf
        refine va_iast hx hb hK hP hD hS 1 0 rfl rfl hi5 dX1_readFrom_35 (fun H locs hP hD hS => ?_)
        have hP : va_P (dC, dI) vwCl [(ht, .inr (1, [.ref ht_drops, .ref ht_from, .ref ht_to, .ref ht_tires, .ref ht_copies, .ref ht_pages, .int (if (4:Int32) < x1 then (4:Int32) else x1)])), (ht_drops, .inl (cI, 4, .inl (upd yvt_drops_14 y2_14.toNatClampNeg x4))), (ht_from, .inl (cI, 4, .inl yvt_from_14)), (ht_to, .inl (cI, 4, .inl yvt_to_14)), (ht_tires, .inl (cI, 4, .inl yvt_tires_14)), (ht_copies, .inl (cI, 4, .inl yvt_copies_14)), (hp0, .inr (2, [.ref hp0_letters, .int vp0_size])), (hp0_letters, .inl (cI, 32, .inl vp0_letters))] H := hP
        have hD : va_D A [(ht, .inr (1, [.ref ht_drops, .ref ht_from, .ref ht_to, .ref ht_tires, .ref ht_copies, .ref ht_pages, .int (if (4:Int32) < x1 then (4:Int32) else x1)])), (ht_drops, .inl (cI, 4, .inl (upd yvt_drops_14 y2_14.toNatClampNeg x4))), (ht_from, .inl (cI, 4, .inl yvt_from_14)), (ht_to, .inl (cI, 4, .inl yvt_to_14)), (ht_tires, .inl (cI, 4, .inl yvt_tires_14)), (ht_copies, .inl (cI, 4, .inl yvt_copies_14)), (hp0, .inr (2, [.ref hp0_letters, .int vp0_size])), (hp0_letters, .inl (cI, 32, .inl vp0_letters))] := hD
        refine lv_aload_n hx hb dX1_readFrom_36 rfl (lv_at hl 1 rfl) ?_
        refine va_get (D := (dC, dI)) (ci := 1) (v := .ref ht_from) (C := RX1) (T := TX1) (N := 7) hx hb hts hinX1 hown hK hP 0 rfl rfl 1 (by decide) hw6 (fun _ h9 => h9) rfl dX1_readFrom_37 ?_
        refine lv_iload_n hx hb dX1_readFrom_40 rfl (lv_at hl 0 rfl) ?_
        refine lv_aload_n hx hb dX1_readFrom_41 rfl (lv_at hl 2 rfl) ?_
        refine lv_iload_n hx hb dX1_readFrom_42 rfl (lv_at hl 0 rfl) ?_
        refine lv_iconst (v := 2) hx hb dX1_readFrom_43 (by decide) ?_
        obtain ⟨x6, hx6, hf⟩ := dg_bind hf
        have hPc : va_P (dC, dI) vwCl [(hp0, .inr (2, [.ref hp0_letters, .int vp0_size])), (hp0_letters, .inl (cI, 32, .inl vp0_letters))] H := hP.sub [6, 7] rfl
        have hDc : va_D A [(hp0, .inr (2, [.ref hp0_letters, .int vp0_size])), (hp0_letters, .inl (cI, 32, .inl vp0_letters))] := hD.sub [6, 7] (by decide) rfl
        have hFc := va_free (wc := [(hp0, .inr (2, [.ref hp0_letters, .int vp0_size])), (hp0_letters, .inl (cI, 32, .inl vp0_letters))]) hD hS hA [6, 7] rfl
        refine va_calli (va_runV (As := [.int y2_14, .int (2:Int32)]) (rest := [.int y2_14, .ref ht_from]) ⟨hx, hb, hml, hown, hts⟩ (k_X2_letterOf l dC dI cI cJ cZ H.size hp0 hp0_letters y2_14 (2:Int32) vp0_size vp0_letters N x6 hx6) (cwV 2 hts gX1_readFrom_X2_letterOf rfl rfl rfl hd_X2_letterOf ⟨Nat.le_of_ble_eq_true rfl, Nat.le_of_ble_eq_true rfl⟩) ⟨blind_pc, va_recv hK hPc (ci := 2) (q0 := 0) rfl rfl, pre_pc hPc hK hDc⟩ rfl rfl hl.1 rfl (lv_room (Nat.le_of_ble_eq_true rfl)) dX1_readFrom_44 ⟨Nat.zero_le _, Nat.zero_le _⟩) hS (fun q _ h => hFc q h) hFc (fun r u t H1 locs eth hvm hw hB hz1 hk1 hS => ?_)
        obtain ⟨hP1, hK1, hD1⟩ := hB
        rw [eth] at hP1
        subst hw
        obtain ⟨hP, hD⟩ := va_join (wr := [(ht, .inr (1, [.ref ht_drops, .ref ht_from, .ref ht_to, .ref ht_tires, .ref ht_copies, .ref ht_pages, .int (if (4:Int32) < x1 then (4:Int32) else x1)])), (ht_drops, .inl (cI, 4, .inl (upd yvt_drops_14 y2_14.toNatClampNeg x4))), (ht_from, .inl (cI, 4, .inl yvt_from_14)), (ht_to, .inl (cI, 4, .inl yvt_to_14)), (ht_tires, .inl (cI, 4, .inl yvt_tires_14)), (ht_copies, .inl (cI, 4, .inl yvt_copies_14))]) (w1 := [(hp0, .inr (2, [.ref hp0_letters, .int vp0_size])), (hp0_letters, .inl (cI, 32, .inl vp0_letters))]) hP hD [6, 7] [0, 1, 2, 3, 4, 5] rfl rfl (by decide) (by decide) hk1 hFc hP1 hD1
        clear hP1 hK1 hD1 hPc hDc hFc hk1 hz1 hvm eth
        generalize H1 = H at hP hS ⊢
        have hP : va_P (dC, dI) vwCl [(ht, .inr (1, [.ref ht_drops, .ref ht_from, .ref ht_to, .ref ht_tires, .ref ht_copies, .ref ht_pages, .int (if (4:Int32) < x1 then (4:Int32) else x1)])), (ht_drops, .inl (cI, 4, .inl (upd yvt_drops_14 y2_14.toNatClampNeg x4))), (ht_from, .inl (cI, 4, .inl yvt_from_14)), (ht_to, .inl (cI, 4, .inl yvt_to_14)), (ht_tires, .inl (cI, 4, .inl yvt_tires_14)), (ht_copies, .inl (cI, 4, .inl yvt_copies_14)), (hp0, .inr (2, [.ref hp0_letters, .int vp0_size])), (hp0_letters, .inl (cI, 32, .inl vp0_letters))] H := hP
        have hD : va_D A [(ht, .inr (1, [.ref ht_drops, .ref ht_from, .ref ht_to, .ref ht_tires, .ref ht_copies, .ref ht_pages, .int (if (4:Int32) < x1 then (4:Int32) else x1)])), (ht_drops, .inl (cI, 4, .inl (upd yvt_drops_14 y2_14.toNatClampNeg x4))), (ht_from, .inl (cI, 4, .inl yvt_from_14)), (ht_to, .inl (cI, 4, .inl yvt_to_14)), (ht_tires, .inl (cI, 4, .inl yvt_tires_14)), (ht_copies, .inl (cI, 4, .inl yvt_copies_14)), (hp0, .inr (2, [.ref hp0_letters, .int vp0_size])), (hp0_letters, .inl (cI, 32, .inl vp0_letters))] := hD
        refine lv_bipush (v := 97) hx hb dX1_readFrom_47 (by decide) ?_
        obtain ⟨x7, hx7, hf⟩ := dg_bind hf
        have hPc : va_P (dC, dI) vwCl [] H := hP.sub [] rfl
        have hDc : va_D A [] := hD.sub [] (by decide) rfl
        have hFc := va_free (wc := []) hD hS hA [] rfl
        refine va_calli (va_runS (As := [.int x6, .int (97:Int32)]) (rest := [.int y2_14, .ref ht_from]) ⟨hx, hb, hml, hown, hts⟩ (k_X1_noneOrFrom l dC dI cI cJ cZ H.size x6 (97:Int32) N x7 hx7) (va_cwS 2 hts gX1_readFrom_X1_noneOrFrom rfl rfl rfl hd_X1_noneOrFrom ⟨Nat.le_of_ble_eq_true rfl, Nat.le_of_ble_eq_true rfl⟩) ⟨blind_pc, pre_pc hPc hK hDc⟩ rfl rfl hl.1 rfl (lv_room (Nat.le_of_ble_eq_true rfl)) dX1_readFrom_49 ⟨Nat.zero_le _, Nat.zero_le _⟩) hS (fun q _ h => hFc q h) hFc (fun r u t H1 locs eth hvm hw hB hz1 hk1 hS => ?_)
        obtain ⟨hP1, hK1, hD1⟩ := hB
        rw [eth] at hP1
        subst hw
        obtain ⟨hP, hD⟩ := va_join (wr := [(ht, .inr (1, [.ref ht_drops, .ref ht_from, .ref ht_to, .ref ht_tires, .ref ht_copies, .ref ht_pages, .int (if (4:Int32) < x1 then (4:Int32) else x1)])), (ht_drops, .inl (cI, 4, .inl (upd yvt_drops_14 y2_14.toNatClampNeg x4))), (ht_from, .inl (cI, 4, .inl yvt_from_14)), (ht_to, .inl (cI, 4, .inl yvt_to_14)), (ht_tires, .inl (cI, 4, .inl yvt_tires_14)), (ht_copies, .inl (cI, 4, .inl yvt_copies_14)), (hp0, .inr (2, [.ref hp0_letters, .int vp0_size])), (hp0_letters, .inl (cI, 32, .inl vp0_letters))]) (w1 := []) hP hD [] [0, 1, 2, 3, 4, 5, 6, 7] rfl rfl (by decide) (by decide) hk1 hFc hP1 hD1
        clear hP1 hK1 hD1 hPc hDc hFc hk1 hz1 hvm eth
        generalize H1 = H at hP hS ⊢
        have hP : va_P (dC, dI) vwCl [(ht, .inr (1, [.ref ht_drops, .ref ht_from, .ref ht_to, .ref ht_tires, .ref ht_copies, .ref ht_pages, .int (if (4:Int32) < x1 then (4:Int32) else x1)])), (ht_drops, .inl (cI, 4, .inl (upd yvt_drops_14 y2_14.toNatClampNeg x4))), (ht_from, .inl (cI, 4, .inl yvt_from_14)), (ht_to, .inl (cI, 4, .inl yvt_to_14)), (ht_tires, .inl (cI, 4, .inl yvt_tires_14)), (ht_copies, .inl (cI, 4, .inl yvt_copies_14)), (hp0, .inr (2, [.ref hp0_letters, .int vp0_size])), (hp0_letters, .inl (cI, 32, .inl vp0_letters))] H := hP
        have hD : va_D A [(ht, .inr (1, [.ref ht_drops, .ref ht_from, .ref ht_to, .ref ht_tires, .ref ht_copies, .ref ht_pages, .int (if (4:Int32) < x1 then (4:Int32) else x1)])), (ht_drops, .inl (cI, 4, .inl (upd yvt_drops_14 y2_14.toNatClampNeg x4))), (ht_from, .inl (cI, 4, .inl yvt_from_14)), (ht_to, .inl (cI, 4, .inl yvt_to_14)), (ht_tires, .inl (cI, 4, .inl yvt_tires_14)), (ht_copies, .inl (cI, 4, .inl yvt_copies_14)), (hp0, .inr (2, [.ref hp0_letters, .int vp0_size])), (hp0_letters, .inl (cI, 32, .inl vp0_letters))] := hD
        obtain ⟨hi8, hf⟩ := dg_ix hf
        refine va_iast hx hb hK hP hD hS 2 0 rfl rfl hi8 dX1_readFrom_52 (fun H locs hP hD hS => ?_)
        have hP : va_P (dC, dI) vwCl [(ht, .inr (1, [.ref ht_drops, .ref ht_from, .ref ht_to, .ref ht_tires, .ref ht_copies, .ref ht_pages, .int (if (4:Int32) < x1 then (4:Int32) else x1)])), (ht_drops, .inl (cI, 4, .inl (upd yvt_drops_14 y2_14.toNatClampNeg x4))), (ht_from, .inl (cI, 4, .inl (upd yvt_from_14 y2_14.toNatClampNeg x7))), (ht_to, .inl (cI, 4, .inl yvt_to_14)), (ht_tires, .inl (cI, 4, .inl yvt_tires_14)), (ht_copies, .inl (cI, 4, .inl yvt_copies_14)), (hp0, .inr (2, [.ref hp0_letters, .int vp0_size])), (hp0_letters, .inl (cI, 32, .inl vp0_letters))] H := hP
        have hD : va_D A [(ht, .inr (1, [.ref ht_drops, .ref ht_from, .ref ht_to, .ref ht_tires, .ref ht_copies, .ref ht_pages, .int (if (4:Int32) < x1 then (4:Int32) else x1)])), (ht_drops, .inl (cI, 4, .inl (upd yvt_drops_14 y2_14.toNatClampNeg x4))), (ht_from, .inl (cI, 4, .inl (upd yvt_from_14 y2_14.toNatClampNeg x7))), (ht_to, .inl (cI, 4, .inl yvt_to_14)), (ht_tires, .inl (cI, 4, .inl yvt_tires_14)), (ht_copies, .inl (cI, 4, .inl yvt_copies_14)), (hp0, .inr (2, [.ref hp0_letters, .int vp0_size])), (hp0_letters, .inl (cI, 32, .inl vp0_letters))] := hD
        refine lv_aload_n hx hb dX1_readFrom_53 rfl (lv_at hl 1 rfl) ?_
        refine va_get (D := (dC, dI)) (ci := 1) (v := .ref ht_to) (C := RX1) (T := TX1) (N := 7) hx hb hts hinX1 hown hK hP 0 rfl rfl 2 (by decide) hw7 (fun _ h9 => h9) rfl dX1_readFrom_54 ?_
        refine lv_iload_n hx hb dX1_readFrom_57 rfl (lv_at hl 0 rfl) ?_
        refine lv_aload_n hx hb dX1_readFrom_58 rfl (lv_at hl 2 rfl) ?_
        refine lv_iload_n hx hb dX1_readFrom_59 rfl (lv_at hl 0 rfl) ?_
        refine lv_iconst (v := 3) hx hb dX1_readFrom_60 (by decide) ?_
        obtain ⟨x9, hx9, hf⟩ := dg_bind hf
        have hPc : va_P (dC, dI) vwCl [(hp0, .inr (2, [.ref hp0_letters, .int vp0_size])), (hp0_letters, .inl (cI, 32, .inl vp0_letters))] H := hP.sub [6, 7] rfl
        have hDc : va_D A [(hp0, .inr (2, [.ref hp0_letters, .int vp0_size])), (hp0_letters, .inl (cI, 32, .inl vp0_letters))] := hD.sub [6, 7] (by decide) rfl
        have hFc := va_free (wc := [(hp0, .inr (2, [.ref hp0_letters, .int vp0_size])), (hp0_letters, .inl (cI, 32, .inl vp0_letters))]) hD hS hA [6, 7] rfl
        refine va_calli (va_runV (As := [.int y2_14, .int (3:Int32)]) (rest := [.int y2_14, .ref ht_to]) ⟨hx, hb, hml, hown, hts⟩ (k_X2_letterOf l dC dI cI cJ cZ H.size hp0 hp0_letters y2_14 (3:Int32) vp0_size vp0_letters N x9 hx9) (cwV 2 hts gX1_readFrom_X2_letterOf rfl rfl rfl hd_X2_letterOf ⟨Nat.le_of_ble_eq_true rfl, Nat.le_of_ble_eq_true rfl⟩) ⟨blind_pc, va_recv hK hPc (ci := 2) (q0 := 0) rfl rfl, pre_pc hPc hK hDc⟩ rfl rfl hl.1 rfl (lv_room (Nat.le_of_ble_eq_true rfl)) dX1_readFrom_61 ⟨Nat.zero_le _, Nat.zero_le _⟩) hS (fun q _ h => hFc q h) hFc (fun r u t H1 locs eth hvm hw hB hz1 hk1 hS => ?_)
        obtain ⟨hP1, hK1, hD1⟩ := hB
        rw [eth] at hP1
        subst hw
        obtain ⟨hP, hD⟩ := va_join (wr := [(ht, .inr (1, [.ref ht_drops, .ref ht_from, .ref ht_to, .ref ht_tires, .ref ht_copies, .ref ht_pages, .int (if (4:Int32) < x1 then (4:Int32) else x1)])), (ht_drops, .inl (cI, 4, .inl (upd yvt_drops_14 y2_14.toNatClampNeg x4))), (ht_from, .inl (cI, 4, .inl (upd yvt_from_14 y2_14.toNatClampNeg x7))), (ht_to, .inl (cI, 4, .inl yvt_to_14)), (ht_tires, .inl (cI, 4, .inl yvt_tires_14)), (ht_copies, .inl (cI, 4, .inl yvt_copies_14))]) (w1 := [(hp0, .inr (2, [.ref hp0_letters, .int vp0_size])), (hp0_letters, .inl (cI, 32, .inl vp0_letters))]) hP hD [6, 7] [0, 1, 2, 3, 4, 5] rfl rfl (by decide) (by decide) hk1 hFc hP1 hD1
        clear hP1 hK1 hD1 hPc hDc hFc hk1 hz1 hvm eth
        generalize H1 = H at hP hS ⊢
        have hP : va_P (dC, dI) vwCl [(ht, .inr (1, [.ref ht_drops, .ref ht_from, .ref ht_to, .ref ht_tires, .ref ht_copies, .ref ht_pages, .int (if (4:Int32) < x1 then (4:Int32) else x1)])), (ht_drops, .inl (cI, 4, .inl (upd yvt_drops_14 y2_14.toNatClampNeg x4))), (ht_from, .inl (cI, 4, .inl (upd yvt_from_14 y2_14.toNatClampNeg x7))), (ht_to, .inl (cI, 4, .inl yvt_to_14)), (ht_tires, .inl (cI, 4, .inl yvt_tires_14)), (ht_copies, .inl (cI, 4, .inl yvt_copies_14)), (hp0, .inr (2, [.ref hp0_letters, .int vp0_size])), (hp0_letters, .inl (cI, 32, .inl vp0_letters))] H := hP
        have hD : va_D A [(ht, .inr (1, [.ref ht_drops, .ref ht_from, .ref ht_to, .ref ht_tires, .ref ht_copies, .ref ht_pages, .int (if (4:Int32) < x1 then (4:Int32) else x1)])), (ht_drops, .inl (cI, 4, .inl (upd yvt_drops_14 y2_14.toNatClampNeg x4))), (ht_from, .inl (cI, 4, .inl (upd yvt_from_14 y2_14.toNatClampNeg x7))), (ht_to, .inl (cI, 4, .inl yvt_to_14)), (ht_tires, .inl (cI, 4, .inl yvt_tires_14)), (ht_copies, .inl (cI, 4, .inl yvt_copies_14)), (hp0, .inr (2, [.ref hp0_letters, .int vp0_size])), (hp0_letters, .inl (cI, 32, .inl vp0_letters))] := hD
        refine lv_bipush (v := 97) hx hb dX1_readFrom_64 (by decide) ?_
        obtain ⟨x10, hx10, hf⟩ := dg_bind hf
        have hPc : va_P (dC, dI) vwCl [] H := hP.sub [] rfl
        have hDc : va_D A [] := hD.sub [] (by decide) rfl
        have hFc := va_free (wc := []) hD hS hA [] rfl
        refine va_calli (va_runS (As := [.int x9, .int (97:Int32)]) (rest := [.int y2_14, .ref ht_to]) ⟨hx, hb, hml, hown, hts⟩ (k_X1_noneOrFrom l dC dI cI cJ cZ H.size x9 (97:Int32) N x10 hx10) (va_cwS 2 hts gX1_readFrom_X1_noneOrFrom rfl rfl rfl hd_X1_noneOrFrom ⟨Nat.le_of_ble_eq_true rfl, Nat.le_of_ble_eq_true rfl⟩) ⟨blind_pc, pre_pc hPc hK hDc⟩ rfl rfl hl.1 rfl (lv_room (Nat.le_of_ble_eq_true rfl)) dX1_readFrom_66 ⟨Nat.zero_le _, Nat.zero_le _⟩) hS (fun q _ h => hFc q h) hFc (fun r u t H1 locs eth hvm hw hB hz1 hk1 hS => ?_)
        obtain ⟨hP1, hK1, hD1⟩ := hB
        rw [eth] at hP1
        subst hw
        obtain ⟨hP, hD⟩ := va_join (wr := [(ht, .inr (1, [.ref ht_drops, .ref ht_from, .ref ht_to, .ref ht_tires, .ref ht_copies, .ref ht_pages, .int (if (4:Int32) < x1 then (4:Int32) else x1)])), (ht_drops, .inl (cI, 4, .inl (upd yvt_drops_14 y2_14.toNatClampNeg x4))), (ht_from, .inl (cI, 4, .inl (upd yvt_from_14 y2_14.toNatClampNeg x7))), (ht_to, .inl (cI, 4, .inl yvt_to_14)), (ht_tires, .inl (cI, 4, .inl yvt_tires_14)), (ht_copies, .inl (cI, 4, .inl yvt_copies_14)), (hp0, .inr (2, [.ref hp0_letters, .int vp0_size])), (hp0_letters, .inl (cI, 32, .inl vp0_letters))]) (w1 := []) hP hD [] [0, 1, 2, 3, 4, 5, 6, 7] rfl rfl (by decide) (by decide) hk1 hFc hP1 hD1
        clear hP1 hK1 hD1 hPc hDc hFc hk1 hz1 hvm eth
        generalize H1 = H at hP hS ⊢
        have hP : va_P (dC, dI) vwCl [(ht, .inr (1, [.ref ht_drops, .ref ht_from, .ref ht_to, .ref ht_tires, .ref ht_copies, .ref ht_pages, .int (if (4:Int32) < x1 then (4:Int32) else x1)])), (ht_drops, .inl (cI, 4, .inl (upd yvt_drops_14 y2_14.toNatClampNeg x4))), (ht_from, .inl (cI, 4, .inl (upd yvt_from_14 y2_14.toNatClampNeg x7))), (ht_to, .inl (cI, 4, .inl yvt_to_14)), (ht_tires, .inl (cI, 4, .inl yvt_tires_14)), (ht_copies, .inl (cI, 4, .inl yvt_copies_14)), (hp0, .inr (2, [.ref hp0_letters, .int vp0_size])), (hp0_letters, .inl (cI, 32, .inl vp0_letters))] H := hP
        have hD : va_D A [(ht, .inr (1, [.ref ht_drops, .ref ht_from, .ref ht_to, .ref ht_tires, .ref ht_copies, .ref ht_pages, .int (if (4:Int32) < x1 then (4:Int32) else x1)])), (ht_drops, .inl (cI, 4, .inl (upd yvt_drops_14 y2_14.toNatClampNeg x4))), (ht_from, .inl (cI, 4, .inl (upd yvt_from_14 y2_14.toNatClampNeg x7))), (ht_to, .inl (cI, 4, .inl yvt_to_14)), (ht_tires, .inl (cI, 4, .inl yvt_tires_14)), (ht_copies, .inl (cI, 4, .inl yvt_copies_14)), (hp0, .inr (2, [.ref hp0_letters, .int vp0_size])), (hp0_letters, .inl (cI, 32, .inl vp0_letters))] := hD
        obtain ⟨hi11, hf⟩ := dg_ix hf
        refine va_iast hx hb hK hP hD hS 3 0 rfl rfl hi11 dX1_readFrom_69 (fun H locs hP hD hS => ?_)
        have hP : va_P (dC, dI) vwCl [(ht, .inr (1, [.ref ht_drops, .ref ht_from, .ref ht_to, .ref ht_tires, .ref ht_copies, .ref ht_pages, .int (if (4:Int32) < x1 then (4:Int32) else x1)])), (ht_drops, .inl (cI, 4, .inl (upd yvt_drops_14 y2_14.toNatClampNeg x4))), (ht_from, .inl (cI, 4, .inl (upd yvt_from_14 y2_14.toNatClampNeg x7))), (ht_to, .inl (cI, 4, .inl (upd yvt_to_14 y2_14.toNatClampNeg x10))), (ht_tires, .inl (cI, 4, .inl yvt_tires_14)), (ht_copies, .inl (cI, 4, .inl yvt_copies_14)), (hp0, .inr (2, [.ref hp0_letters, .int vp0_size])), (hp0_letters, .inl (cI, 32, .inl vp0_letters))] H := hP
        have hD : va_D A [(ht, .inr (1, [.ref ht_drops, .ref ht_from, .ref ht_to, .ref ht_tires, .ref ht_copies, .ref ht_pages, .int (if (4:Int32) < x1 then (4:Int32) else x1)])), (ht_drops, .inl (cI, 4, .inl (upd yvt_drops_14 y2_14.toNatClampNeg x4))), (ht_from, .inl (cI, 4, .inl (upd yvt_from_14 y2_14.toNatClampNeg x7))), (ht_to, .inl (cI, 4, .inl (upd yvt_to_14 y2_14.toNatClampNeg x10))), (ht_tires, .inl (cI, 4, .inl yvt_tires_14)), (ht_copies, .inl (cI, 4, .inl yvt_copies_14)), (hp0, .inr (2, [.ref hp0_letters, .int vp0_size])), (hp0_letters, .inl (cI, 32, .inl vp0_letters))] := hD
        refine lv_aload_n hx hb dX1_readFrom_70 rfl (lv_at hl 1 rfl) ?_
        refine va_get (D := (dC, dI)) (ci := 1) (v := .ref ht_tires) (C := RX1) (T := TX1) (N := 7) hx hb hts hinX1 hown hK hP 0 rfl rfl 3 (by decide) hw8 (fun _ h9 => h9) rfl dX1_readFrom_71 ?_
        refine lv_iload_n hx hb dX1_readFrom_74 rfl (lv_at hl 0 rfl) ?_
        refine lv_aload_n hx hb dX1_readFrom_75 rfl (lv_at hl 2 rfl) ?_
        refine lv_iload_n hx hb dX1_readFrom_76 rfl (lv_at hl 0 rfl) ?_
        refine lv_iconst (v := 4) hx hb dX1_readFrom_77 (by decide) ?_
        obtain ⟨x12, hx12, hf⟩ := dg_bind hf
        have hPc : va_P (dC, dI) vwCl [(hp0, .inr (2, [.ref hp0_letters, .int vp0_size])), (hp0_letters, .inl (cI, 32, .inl vp0_letters))] H := hP.sub [6, 7] rfl
        have hDc : va_D A [(hp0, .inr (2, [.ref hp0_letters, .int vp0_size])), (hp0_letters, .inl (cI, 32, .inl vp0_letters))] := hD.sub [6, 7] (by decide) rfl
        have hFc := va_free (wc := [(hp0, .inr (2, [.ref hp0_letters, .int vp0_size])), (hp0_letters, .inl (cI, 32, .inl vp0_letters))]) hD hS hA [6, 7] rfl
        refine va_calli (va_runV (As := [.int y2_14, .int (4:Int32)]) (rest := [.int y2_14, .ref ht_tires]) ⟨hx, hb, hml, hown, hts⟩ (k_X2_letterOf l dC dI cI cJ cZ H.size hp0 hp0_letters y2_14 (4:Int32) vp0_size vp0_letters N x12 hx12) (cwV 2 hts gX1_readFrom_X2_letterOf rfl rfl rfl hd_X2_letterOf ⟨Nat.le_of_ble_eq_true rfl, Nat.le_of_ble_eq_true rfl⟩) ⟨blind_pc, va_recv hK hPc (ci := 2) (q0 := 0) rfl rfl, pre_pc hPc hK hDc⟩ rfl rfl hl.1 rfl (lv_room (Nat.le_of_ble_eq_true rfl)) dX1_readFrom_78 ⟨Nat.zero_le _, Nat.zero_le _⟩) hS (fun q _ h => hFc q h) hFc (fun r u t H1 locs eth hvm hw hB hz1 hk1 hS => ?_)
        obtain ⟨hP1, hK1, hD1⟩ := hB
        rw [eth] at hP1
        subst hw
        obtain ⟨hP, hD⟩ := va_join (wr := [(ht, .inr (1, [.ref ht_drops, .ref ht_from, .ref ht_to, .ref ht_tires, .ref ht_copies, .ref ht_pages, .int (if (4:Int32) < x1 then (4:Int32) else x1)])), (ht_drops, .inl (cI, 4, .inl (upd yvt_drops_14 y2_14.toNatClampNeg x4))), (ht_from, .inl (cI, 4, .inl (upd yvt_from_14 y2_14.toNatClampNeg x7))), (ht_to, .inl (cI, 4, .inl (upd yvt_to_14 y2_14.toNatClampNeg x10))), (ht_tires, .inl (cI, 4, .inl yvt_tires_14)), (ht_copies, .inl (cI, 4, .inl yvt_copies_14))]) (w1 := [(hp0, .inr (2, [.ref hp0_letters, .int vp0_size])), (hp0_letters, .inl (cI, 32, .inl vp0_letters))]) hP hD [6, 7] [0, 1, 2, 3, 4, 5] rfl rfl (by decide) (by decide) hk1 hFc hP1 hD1
        clear hP1 hK1 hD1 hPc hDc hFc hk1 hz1 hvm eth
        generalize H1 = H at hP hS ⊢
        have hP : va_P (dC, dI) vwCl [(ht, .inr (1, [.ref ht_drops, .ref ht_from, .ref ht_to, .ref ht_tires, .ref ht_copies, .ref ht_pages, .int (if (4:Int32) < x1 then (4:Int32) else x1)])), (ht_drops, .inl (cI, 4, .inl (upd yvt_drops_14 y2_14.toNatClampNeg x4))), (ht_from, .inl (cI, 4, .inl (upd yvt_from_14 y2_14.toNatClampNeg x7))), (ht_to, .inl (cI, 4, .inl (upd yvt_to_14 y2_14.toNatClampNeg x10))), (ht_tires, .inl (cI, 4, .inl yvt_tires_14)), (ht_copies, .inl (cI, 4, .inl yvt_copies_14)), (hp0, .inr (2, [.ref hp0_letters, .int vp0_size])), (hp0_letters, .inl (cI, 32, .inl vp0_letters))] H := hP
        have hD : va_D A [(ht, .inr (1, [.ref ht_drops, .ref ht_from, .ref ht_to, .ref ht_tires, .ref ht_copies, .ref ht_pages, .int (if (4:Int32) < x1 then (4:Int32) else x1)])), (ht_drops, .inl (cI, 4, .inl (upd yvt_drops_14 y2_14.toNatClampNeg x4))), (ht_from, .inl (cI, 4, .inl (upd yvt_from_14 y2_14.toNatClampNeg x7))), (ht_to, .inl (cI, 4, .inl (upd yvt_to_14 y2_14.toNatClampNeg x10))), (ht_tires, .inl (cI, 4, .inl yvt_tires_14)), (ht_copies, .inl (cI, 4, .inl yvt_copies_14)), (hp0, .inr (2, [.ref hp0_letters, .int vp0_size])), (hp0_letters, .inl (cI, 32, .inl vp0_letters))] := hD
        refine lv_bipush (v := 48) hx hb dX1_readFrom_81 (by decide) ?_
        refine lv_isub hx hb dX1_readFrom_83 ?_
        obtain ⟨hi13, hf⟩ := dg_ix hf
        refine va_iast hx hb hK hP hD hS 4 0 rfl rfl hi13 dX1_readFrom_84 (fun H locs hP hD hS => ?_)
        have hP : va_P (dC, dI) vwCl [(ht, .inr (1, [.ref ht_drops, .ref ht_from, .ref ht_to, .ref ht_tires, .ref ht_copies, .ref ht_pages, .int (if (4:Int32) < x1 then (4:Int32) else x1)])), (ht_drops, .inl (cI, 4, .inl (upd yvt_drops_14 y2_14.toNatClampNeg x4))), (ht_from, .inl (cI, 4, .inl (upd yvt_from_14 y2_14.toNatClampNeg x7))), (ht_to, .inl (cI, 4, .inl (upd yvt_to_14 y2_14.toNatClampNeg x10))), (ht_tires, .inl (cI, 4, .inl (upd yvt_tires_14 y2_14.toNatClampNeg (x12 - (48:Int32))))), (ht_copies, .inl (cI, 4, .inl yvt_copies_14)), (hp0, .inr (2, [.ref hp0_letters, .int vp0_size])), (hp0_letters, .inl (cI, 32, .inl vp0_letters))] H := hP
        have hD : va_D A [(ht, .inr (1, [.ref ht_drops, .ref ht_from, .ref ht_to, .ref ht_tires, .ref ht_copies, .ref ht_pages, .int (if (4:Int32) < x1 then (4:Int32) else x1)])), (ht_drops, .inl (cI, 4, .inl (upd yvt_drops_14 y2_14.toNatClampNeg x4))), (ht_from, .inl (cI, 4, .inl (upd yvt_from_14 y2_14.toNatClampNeg x7))), (ht_to, .inl (cI, 4, .inl (upd yvt_to_14 y2_14.toNatClampNeg x10))), (ht_tires, .inl (cI, 4, .inl (upd yvt_tires_14 y2_14.toNatClampNeg (x12 - (48:Int32))))), (ht_copies, .inl (cI, 4, .inl yvt_copies_14)), (hp0, .inr (2, [.ref hp0_letters, .int vp0_size])), (hp0_letters, .inl (cI, 32, .inl vp0_letters))] := hD
        refine lv_aload_n hx hb dX1_readFrom_85 rfl (lv_at hl 1 rfl) ?_
        refine va_get (D := (dC, dI)) (ci := 1) (v := .ref ht_copies) (C := RX1) (T := TX1) (N := 7) hx hb hts hinX1 hown hK hP 0 rfl rfl 4 (by decide) hw9 (fun _ h9 => h9) rfl dX1_readFrom_86 ?_
        refine lv_iload_n hx hb dX1_readFrom_89 rfl (lv_at hl 0 rfl) ?_
        refine lv_aload_n hx hb dX1_readFrom_90 rfl (lv_at hl 2 rfl) ?_
        refine lv_iload_n hx hb dX1_readFrom_91 rfl (lv_at hl 0 rfl) ?_
        refine lv_iconst (v := 5) hx hb dX1_readFrom_92 (by decide) ?_
        obtain ⟨x14, hx14, hf⟩ := dg_bind hf
        have hPc : va_P (dC, dI) vwCl [(hp0, .inr (2, [.ref hp0_letters, .int vp0_size])), (hp0_letters, .inl (cI, 32, .inl vp0_letters))] H := hP.sub [6, 7] rfl
        have hDc : va_D A [(hp0, .inr (2, [.ref hp0_letters, .int vp0_size])), (hp0_letters, .inl (cI, 32, .inl vp0_letters))] := hD.sub [6, 7] (by decide) rfl
        have hFc := va_free (wc := [(hp0, .inr (2, [.ref hp0_letters, .int vp0_size])), (hp0_letters, .inl (cI, 32, .inl vp0_letters))]) hD hS hA [6, 7] rfl
        refine va_calli (va_runV (As := [.int y2_14, .int (5:Int32)]) (rest := [.int y2_14, .ref ht_copies]) ⟨hx, hb, hml, hown, hts⟩ (k_X2_letterOf l dC dI cI cJ cZ H.size hp0 hp0_letters y2_14 (5:Int32) vp0_size vp0_letters N x14 hx14) (cwV 2 hts gX1_readFrom_X2_letterOf rfl rfl rfl hd_X2_letterOf ⟨Nat.le_of_ble_eq_true rfl, Nat.le_of_ble_eq_true rfl⟩) ⟨blind_pc, va_recv hK hPc (ci := 2) (q0 := 0) rfl rfl, pre_pc hPc hK hDc⟩ rfl rfl hl.1 rfl (lv_room (Nat.le_of_ble_eq_true rfl)) dX1_readFrom_93 ⟨Nat.zero_le _, Nat.zero_le _⟩) hS (fun q _ h => hFc q h) hFc (fun r u t H1 locs eth hvm hw hB hz1 hk1 hS => ?_)
        obtain ⟨hP1, hK1, hD1⟩ := hB
        rw [eth] at hP1
        subst hw
        obtain ⟨hP, hD⟩ := va_join (wr := [(ht, .inr (1, [.ref ht_drops, .ref ht_from, .ref ht_to, .ref ht_tires, .ref ht_copies, .ref ht_pages, .int (if (4:Int32) < x1 then (4:Int32) else x1)])), (ht_drops, .inl (cI, 4, .inl (upd yvt_drops_14 y2_14.toNatClampNeg x4))), (ht_from, .inl (cI, 4, .inl (upd yvt_from_14 y2_14.toNatClampNeg x7))), (ht_to, .inl (cI, 4, .inl (upd yvt_to_14 y2_14.toNatClampNeg x10))), (ht_tires, .inl (cI, 4, .inl (upd yvt_tires_14 y2_14.toNatClampNeg (x12 - (48:Int32))))), (ht_copies, .inl (cI, 4, .inl yvt_copies_14))]) (w1 := [(hp0, .inr (2, [.ref hp0_letters, .int vp0_size])), (hp0_letters, .inl (cI, 32, .inl vp0_letters))]) hP hD [6, 7] [0, 1, 2, 3, 4, 5] rfl rfl (by decide) (by decide) hk1 hFc hP1 hD1
        clear hP1 hK1 hD1 hPc hDc hFc hk1 hz1 hvm eth
        generalize H1 = H at hP hS ⊢
        have hP : va_P (dC, dI) vwCl [(ht, .inr (1, [.ref ht_drops, .ref ht_from, .ref ht_to, .ref ht_tires, .ref ht_copies, .ref ht_pages, .int (if (4:Int32) < x1 then (4:Int32) else x1)])), (ht_drops, .inl (cI, 4, .inl (upd yvt_drops_14 y2_14.toNatClampNeg x4))), (ht_from, .inl (cI, 4, .inl (upd yvt_from_14 y2_14.toNatClampNeg x7))), (ht_to, .inl (cI, 4, .inl (upd yvt_to_14 y2_14.toNatClampNeg x10))), (ht_tires, .inl (cI, 4, .inl (upd yvt_tires_14 y2_14.toNatClampNeg (x12 - (48:Int32))))), (ht_copies, .inl (cI, 4, .inl yvt_copies_14)), (hp0, .inr (2, [.ref hp0_letters, .int vp0_size])), (hp0_letters, .inl (cI, 32, .inl vp0_letters))] H := hP
        have hD : va_D A [(ht, .inr (1, [.ref ht_drops, .ref ht_from, .ref ht_to, .ref ht_tires, .ref ht_copies, .ref ht_pages, .int (if (4:Int32) < x1 then (4:Int32) else x1)])), (ht_drops, .inl (cI, 4, .inl (upd yvt_drops_14 y2_14.toNatClampNeg x4))), (ht_from, .inl (cI, 4, .inl (upd yvt_from_14 y2_14.toNatClampNeg x7))), (ht_to, .inl (cI, 4, .inl (upd yvt_to_14 y2_14.toNatClampNeg x10))), (ht_tires, .inl (cI, 4, .inl (upd yvt_tires_14 y2_14.toNatClampNeg (x12 - (48:Int32))))), (ht_copies, .inl (cI, 4, .inl yvt_copies_14)), (hp0, .inr (2, [.ref hp0_letters, .int vp0_size])), (hp0_letters, .inl (cI, 32, .inl vp0_letters))] := hD
        refine lv_bipush (v := 48) hx hb dX1_readFrom_96 (by decide) ?_
        obtain ⟨x15, hx15, hf⟩ := dg_bind hf
        have hPc : va_P (dC, dI) vwCl [] H := hP.sub [] rfl
        have hDc : va_D A [] := hD.sub [] (by decide) rfl
        have hFc := va_free (wc := []) hD hS hA [] rfl
        refine va_calli (va_runS (As := [.int x14, .int (48:Int32)]) (rest := [.int y2_14, .ref ht_copies]) ⟨hx, hb, hml, hown, hts⟩ (k_X1_noneOrFrom l dC dI cI cJ cZ H.size x14 (48:Int32) N x15 hx15) (va_cwS 2 hts gX1_readFrom_X1_noneOrFrom rfl rfl rfl hd_X1_noneOrFrom ⟨Nat.le_of_ble_eq_true rfl, Nat.le_of_ble_eq_true rfl⟩) ⟨blind_pc, pre_pc hPc hK hDc⟩ rfl rfl hl.1 rfl (lv_room (Nat.le_of_ble_eq_true rfl)) dX1_readFrom_98 ⟨Nat.zero_le _, Nat.zero_le _⟩) hS (fun q _ h => hFc q h) hFc (fun r u t H1 locs eth hvm hw hB hz1 hk1 hS => ?_)
        obtain ⟨hP1, hK1, hD1⟩ := hB
        rw [eth] at hP1
        subst hw
        obtain ⟨hP, hD⟩ := va_join (wr := [(ht, .inr (1, [.ref ht_drops, .ref ht_from, .ref ht_to, .ref ht_tires, .ref ht_copies, .ref ht_pages, .int (if (4:Int32) < x1 then (4:Int32) else x1)])), (ht_drops, .inl (cI, 4, .inl (upd yvt_drops_14 y2_14.toNatClampNeg x4))), (ht_from, .inl (cI, 4, .inl (upd yvt_from_14 y2_14.toNatClampNeg x7))), (ht_to, .inl (cI, 4, .inl (upd yvt_to_14 y2_14.toNatClampNeg x10))), (ht_tires, .inl (cI, 4, .inl (upd yvt_tires_14 y2_14.toNatClampNeg (x12 - (48:Int32))))), (ht_copies, .inl (cI, 4, .inl yvt_copies_14)), (hp0, .inr (2, [.ref hp0_letters, .int vp0_size])), (hp0_letters, .inl (cI, 32, .inl vp0_letters))]) (w1 := []) hP hD [] [0, 1, 2, 3, 4, 5, 6, 7] rfl rfl (by decide) (by decide) hk1 hFc hP1 hD1
        clear hP1 hK1 hD1 hPc hDc hFc hk1 hz1 hvm eth
        generalize H1 = H at hP hS ⊢
        have hP : va_P (dC, dI) vwCl [(ht, .inr (1, [.ref ht_drops, .ref ht_from, .ref ht_to, .ref ht_tires, .ref ht_copies, .ref ht_pages, .int (if (4:Int32) < x1 then (4:Int32) else x1)])), (ht_drops, .inl (cI, 4, .inl (upd yvt_drops_14 y2_14.toNatClampNeg x4))), (ht_from, .inl (cI, 4, .inl (upd yvt_from_14 y2_14.toNatClampNeg x7))), (ht_to, .inl (cI, 4, .inl (upd yvt_to_14 y2_14.toNatClampNeg x10))), (ht_tires, .inl (cI, 4, .inl (upd yvt_tires_14 y2_14.toNatClampNeg (x12 - (48:Int32))))), (ht_copies, .inl (cI, 4, .inl yvt_copies_14)), (hp0, .inr (2, [.ref hp0_letters, .int vp0_size])), (hp0_letters, .inl (cI, 32, .inl vp0_letters))] H := hP
        have hD : va_D A [(ht, .inr (1, [.ref ht_drops, .ref ht_from, .ref ht_to, .ref ht_tires, .ref ht_copies, .ref ht_pages, .int (if (4:Int32) < x1 then (4:Int32) else x1)])), (ht_drops, .inl (cI, 4, .inl (upd yvt_drops_14 y2_14.toNatClampNeg x4))), (ht_from, .inl (cI, 4, .inl (upd yvt_from_14 y2_14.toNatClampNeg x7))), (ht_to, .inl (cI, 4, .inl (upd yvt_to_14 y2_14.toNatClampNeg x10))), (ht_tires, .inl (cI, 4, .inl (upd yvt_tires_14 y2_14.toNatClampNeg (x12 - (48:Int32))))), (ht_copies, .inl (cI, 4, .inl yvt_copies_14)), (hp0, .inr (2, [.ref hp0_letters, .int vp0_size])), (hp0_letters, .inl (cI, 32, .inl vp0_letters))] := hD
        obtain ⟨hi16, hf⟩ := dg_ix hf
        refine va_iast hx hb hK hP hD hS 5 0 rfl rfl hi16 dX1_readFrom_101 (fun H locs hP hD hS => ?_)
        have hP : va_P (dC, dI) vwCl [(ht, .inr (1, [.ref ht_drops, .ref ht_from, .ref ht_to, .ref ht_tires, .ref ht_copies, .ref ht_pages, .int (if (4:Int32) < x1 then (4:Int32) else x1)])), (ht_drops, .inl (cI, 4, .inl (upd yvt_drops_14 y2_14.toNatClampNeg x4))), (ht_from, .inl (cI, 4, .inl (upd yvt_from_14 y2_14.toNatClampNeg x7))), (ht_to, .inl (cI, 4, .inl (upd yvt_to_14 y2_14.toNatClampNeg x10))), (ht_tires, .inl (cI, 4, .inl (upd yvt_tires_14 y2_14.toNatClampNeg (x12 - (48:Int32))))), (ht_copies, .inl (cI, 4, .inl (upd yvt_copies_14 y2_14.toNatClampNeg x15))), (hp0, .inr (2, [.ref hp0_letters, .int vp0_size])), (hp0_letters, .inl (cI, 32, .inl vp0_letters))] H := hP
        have hD : va_D A [(ht, .inr (1, [.ref ht_drops, .ref ht_from, .ref ht_to, .ref ht_tires, .ref ht_copies, .ref ht_pages, .int (if (4:Int32) < x1 then (4:Int32) else x1)])), (ht_drops, .inl (cI, 4, .inl (upd yvt_drops_14 y2_14.toNatClampNeg x4))), (ht_from, .inl (cI, 4, .inl (upd yvt_from_14 y2_14.toNatClampNeg x7))), (ht_to, .inl (cI, 4, .inl (upd yvt_to_14 y2_14.toNatClampNeg x10))), (ht_tires, .inl (cI, 4, .inl (upd yvt_tires_14 y2_14.toNatClampNeg (x12 - (48:Int32))))), (ht_copies, .inl (cI, 4, .inl (upd yvt_copies_14 y2_14.toNatClampNeg x15))), (hp0, .inr (2, [.ref hp0_letters, .int vp0_size])), (hp0_letters, .inl (cI, 32, .inl vp0_letters))] := hD
        refine lv_iinc (v := (y2_14 + (1:Int32))) (lv' := [(2, .int (y2_14 + (1:Int32))), (0, .ref ht), (1, .ref hp0)]) hx hb dX1_readFrom_102 hl (k := 0) rfl (by first | rfl | decide) (by decide) rfl (fun ls hl => ?_)
        refine lv_goto (tgt := 14) hx hb dX1_readFrom_105 (by decide) ?_
        exact ih14 (y2_14 + (1:Int32)) (upd yvt_drops_14 y2_14.toNatClampNeg x4) (upd yvt_from_14 y2_14.toNatClampNeg x7) (upd yvt_to_14 y2_14.toNatClampNeg x10) (upd yvt_tires_14 y2_14.toNatClampNeg (x12 - (48:Int32))) (upd yvt_copies_14 y2_14.toNatClampNeg x15) _ _ _ (hP.sub (ws' := [(ht, .inr (1, [.ref ht_drops, .ref ht_from, .ref ht_to, .ref ht_tires, .ref ht_copies, .ref ht_pages, .int (if (4:Int32) < x1 then (4:Int32) else x1)])), (ht_drops, .inl (cI, 4, .inl (upd yvt_drops_14 y2_14.toNatClampNeg x4))), (ht_from, .inl (cI, 4, .inl (upd yvt_from_14 y2_14.toNatClampNeg x7))), (ht_to, .inl (cI, 4, .inl (upd yvt_to_14 y2_14.toNatClampNeg x10))), (ht_tires, .inl (cI, 4, .inl (upd yvt_tires_14 y2_14.toNatClampNeg (x12 - (48:Int32))))), (ht_copies, .inl (cI, 4, .inl (upd yvt_copies_14 y2_14.toNatClampNeg x15))), (hp0_letters, .inl (cI, 32, .inl vp0_letters)), (hp0, .inr (2, [.ref hp0_letters, .int vp0_size]))]) [0, 1, 2, 3, 4, 5, 7, 6] rfl) (hD.sub (ws' := [(ht, .inr (1, [.ref ht_drops, .ref ht_from, .ref ht_to, .ref ht_tires, .ref ht_copies, .ref ht_pages, .int (if (4:Int32) < x1 then (4:Int32) else x1)])), (ht_drops, .inl (cI, 4, .inl (upd yvt_drops_14 y2_14.toNatClampNeg x4))), (ht_from, .inl (cI, 4, .inl (upd yvt_from_14 y2_14.toNatClampNeg x7))), (ht_to, .inl (cI, 4, .inl (upd yvt_to_14 y2_14.toNatClampNeg x10))), (ht_tires, .inl (cI, 4, .inl (upd yvt_tires_14 y2_14.toNatClampNeg (x12 - (48:Int32))))), (ht_copies, .inl (cI, 4, .inl (upd yvt_copies_14 y2_14.toNatClampNeg x15))), (hp0_letters, .inl (cI, 32, .inl vp0_letters)), (hp0, .inr (2, [.ref hp0_letters, .int vp0_size]))]) [0, 1, 2, 3, 4, 5, 7, 6] (by decide) rfl) hS (lv_sub hl [0, 1, 2] rfl) hf
  exact lp14 N (0:Int32) vt_drops vt_from vt_to vt_tires vt_copies _ _ _ hP hD hS hl hf
theorem hd_X4_wordsIn : yX4_wordsIn.cls ≠ "java/lang/invoke/MethodHandle" ∧ yX4_wordsIn.cls ≠ "java/lang/invoke/VarHandle" ∧ (parseMethodDescriptor yX4_wordsIn.desc).map (fun d => d.parameters.length) = some 1 := by decide +kernel
abbrev rm_X4_wordsIn : Room := { frames := 0, cells := 0, slots := 0, locals := 0 }
abbrev q_X4_wordsIn (dC : Nat → ClassId) (dI : Nat → Nat → Nat) (cI cJ cZ : ClassId) (R : Int32) (A : Nat → Prop) : Array Value → State → Outcome → State → Prop := va_Qi (fun (r : Int32) (_ : Unit) => R = r) (fun (u : Unit) (t : State) => va_P (dC, dI) vwCl [] t.heap ∧ va_K (dC, dI) vwCl [(cI, .int), (cJ, .long), (cZ, .boolean)] t ∧ va_D A []) A
set_option maxHeartbeats 4000000 in
set_option maxRecDepth 100000 in
theorem k_X4_wordsIn (l : Launch) (dC : Nat → ClassId) (dI : Nat → Nat → Nat) (cI cJ cZ : ClassId) (sz : Nat) (a0 : Int32) (N : Nat) (R : Int32) (hf : f_X4_wordsIn N a0 = some R) : Met l yX4_wordsIn wsX4_wordsIn (rm_X4_wordsIn) (va_Pc [.int a0] (fun U => U.heap.size = sz ∧ va_P (dC, dI) vwCl [] U.heap ∧ va_K (dC, dI) vwCl [(cI, .int), (cJ, .long), (cZ, .boolean)] U ∧ va_D (fun _ => True) [])) (q_X4_wordsIn dC dI cI cJ cZ  R (va_A [] sz)) 0 0 (va_A [] sz) := by
  refine Met.ofW (cc := cX4_wordsIn) (maxL := 3) (ret := (some .int)) (by decide) rfl ?_
  intro p e s m args below meth c s₁ B hml hv
  obtain ⟨rfl, hsz, hP, hK, hD0⟩ := hv
  have hx := B.exec
  have hb := B.bytes
  have hr := B.returns
  have hts := atoms_spec (ws := wsX4_wordsIn) B.pre
  have hown : s.vm.findClass RX4 = some m.cls := findClass_of_methodNamed B.named
  have hlocks := B.notSynchronized
  clear B
  subst hsz
  have hD := hD0.self (sz := s.heap.size)
  clear hD0
  generalize hAe : va_A [] s.heap.size = A at hD ⊢
  have hA : ∀ q : Nat, s.heap.size ≤ q → A q := fun q h => by rw [← hAe]; exact Or.inr h
  clear hAe
  have hS : va_S A s.heap s.heap [] := va_S.rf
  have hl := lv_entry ([.int a0]) (n := 3) (Nat.le_of_ble_eq_true rfl)
  rw [lg_entry_eq]
  generalize (lg_sl ([.int a0]) ++ List.replicate (3 - (lg_sl ([.int a0])).length) Slot.unset).toArray = ls at hl ⊢
  have hl : lv_has ls 3 [(0, .int a0)] := hl
  unfold f_X4_wordsIn at hf
  refine lv_iconst (v := 0) hx hb dX4_wordsIn_0 (by decide) ?_
  refine lv_istore_n (lv' := [(1, .int (0:Int32)), (0, .int a0)]) hx hb dX4_wordsIn_1 rfl hl (by decide) rfl (fun ls hl => ?_)
  refine lv_iload_n hx hb dX4_wordsIn_2 rfl (lv_at hl 1 rfl) ?_
  refine lv_istore_n (lv' := [(2, .int a0), (1, .int (0:Int32)), (0, .int a0)]) hx hb dX4_wordsIn_3 rfl hl (by decide) rfl (fun ls hl => ?_)
  have ex4 : ∀ (z1_4 : Int32) (z2_4 : Int32) (H : Heap) (locs : List Loc) (ls : Array Slot), va_P (dC, dI) vwCl [] H → va_D A [] → va_S A s.heap H locs → lv_has ls 3 [(2, .int z2_4), (1, .int z1_4), (0, .int a0)] → (some z1_4) = some R → W p l e (rm_X4_wordsIn) s m ([.int a0] : List Value).toArray below meth c H locs 0 0 (MQ below (q_X4_wordsIn dC dI cI cJ cZ  R A) ([.int a0] : List Value).toArray s 0 0 A) (F0 m 25 ls []) := by
    intro z1_4 z2_4 H locs ls hP hD hS hl hf
    refine lv_iload_n hx hb dX4_wordsIn_25 rfl (lv_at hl 1 rfl) ?_
    have he := Option.some.inj hf
    have hP9 := hP
    have hD9 := hD
    exact W.iret (v := z1_4) hx hb hr (fun t eth hW => ⟨⟨z1_4, (), rfl, he.symm, by rw [eth]; exact hP9, va_K.moved hW.alike hK, hD9⟩, hS.F eth⟩) hS.2.2 dX4_wordsIn_26
  have lp4 : ∀ (n4 : Nat) (y1_4 : Int32) (y2_4 : Int32) (H : Heap) (locs : List Loc) (ls : Array Slot), va_P (dC, dI) vwCl [] H → va_D A [] → va_S A s.heap H locs → lv_has ls 3 [(2, .int y2_4), (1, .int y1_4), (0, .int a0)] → f_X4_wordsIn_4 N (fun z1_4 z2_4 => some z1_4) n4 y1_4 y2_4 = some R → W p l e (rm_X4_wordsIn) s m ([.int a0] : List Value).toArray below meth c H locs 0 0 (MQ below (q_X4_wordsIn dC dI cI cJ cZ  R A) ([.int a0] : List Value).toArray s 0 0 A) (F0 m 4 ls []) := by
    intro n4
    induction n4 with
    | zero => intro y1_4 y2_4 H locs ls hP hD hS hl hf; rw [f_X4_wordsIn_4] at hf; cases hf
    | succ n4 ih4 =>
      intro y1_4 y2_4 H locs ls hP hD hS hl hf
      rw [f_X4_wordsIn_4] at hf
      refine lv_iload_n hx hb dX4_wordsIn_4 rfl (lv_at hl 0 rfl) ?_
      refine lv_iconst (v := 1) hx hb dX4_wordsIn_5 (by decide) ?_
      refine lv_icmp_le (tgt := 25) hx hb dX4_wordsIn_6 (by decide) (fun c1 => ?_) (fun c1 => ?_)
      · replace hf := dg_t c1 hf
        exact ex4 y1_4 y2_4 _ _ _ hP hD hS (lv_sub hl [0, 1, 2] rfl) hf
      · replace hf := dg_f c1 hf
        refine lv_iload_n hx hb dX4_wordsIn_9 rfl (lv_at hl 1 rfl) ?_
        refine lv_bipush (v := 6) hx hb dX4_wordsIn_10 (by decide) ?_
        refine lv_icmp_ge (tgt := 25) hx hb dX4_wordsIn_12 (by decide) (fun c2 => ?_) (fun c2 => ?_)
        · replace hf := dg_t c2 hf
          exact ex4 y1_4 y2_4 _ _ _ hP hD hS (lv_sub hl [0, 1, 2] rfl) hf
        · replace hf := dg_f c2 hf
          refine lv_iinc (v := (y1_4 + (1:Int32))) (lv' := [(1, .int (y1_4 + (1:Int32))), (2, .int y2_4), (0, .int a0)]) hx hb dX4_wordsIn_15 hl (k := 1) rfl (by first | rfl | decide) (by decide) rfl (fun ls hl => ?_)
          refine lv_iload_n hx hb dX4_wordsIn_18 rfl (lv_at hl 1 rfl) ?_
          refine lv_iconst (v := 2) hx hb dX4_wordsIn_19 (by decide) ?_
          refine lv_ishr hx hb dX4_wordsIn_20 ?_
          refine lv_istore_n (lv' := [(2, .int (y2_4 >>> ((2:Int32) &&& 31))), (1, .int (y1_4 + (1:Int32))), (0, .int a0)]) hx hb dX4_wordsIn_21 rfl hl (by decide) rfl (fun ls hl => ?_)
          refine lv_goto (tgt := 4) hx hb dX4_wordsIn_22 (by decide) ?_
          exact ih4 (y1_4 + (1:Int32)) (y2_4 >>> ((2:Int32) &&& 31)) _ _ _ hP hD hS (lv_sub hl [0, 1, 2] rfl) hf
  exact lp4 N (0:Int32) a0 _ _ _ hP hD hS hl hf
theorem hd_X4_wordAt : yX4_wordAt.cls ≠ "java/lang/invoke/MethodHandle" ∧ yX4_wordAt.cls ≠ "java/lang/invoke/VarHandle" ∧ (parseMethodDescriptor yX4_wordAt.desc).map (fun d => d.parameters.length) = some 3 := by decide +kernel
abbrev rm_X4_wordAt : Room := { frames := 0, cells := 0, slots := 0, locals := 0 }
abbrev q_X4_wordAt (dC : Nat → ClassId) (dI : Nat → Nat → Nat) (cI cJ cZ : ClassId) (R : Int32) (A : Nat → Prop) : Array Value → State → Outcome → State → Prop := va_Qi (fun (r : Int32) (_ : Unit) => R = r) (fun (u : Unit) (t : State) => va_P (dC, dI) vwCl [] t.heap ∧ va_K (dC, dI) vwCl [(cI, .int), (cJ, .long), (cZ, .boolean)] t ∧ va_D A []) A
set_option maxHeartbeats 4000000 in
set_option maxRecDepth 100000 in
theorem k_X4_wordAt (l : Launch) (dC : Nat → ClassId) (dI : Nat → Nat → Nat) (cI cJ cZ : ClassId) (sz : Nat) (a0 : Int32) (a1 : Int32) (a2 : Int32) (N : Nat) (R : Int32) (hf : f_X4_wordAt N a0 a1 a2 = some R) : Met l yX4_wordAt wsX4_wordAt (rm_X4_wordAt) (va_Pc [.int a0, .int a1, .int a2] (fun U => U.heap.size = sz ∧ va_P (dC, dI) vwCl [] U.heap ∧ va_K (dC, dI) vwCl [(cI, .int), (cJ, .long), (cZ, .boolean)] U ∧ va_D (fun _ => True) [])) (q_X4_wordAt dC dI cI cJ cZ  R (va_A [] sz)) 0 0 (va_A [] sz) := by
  refine Met.ofW (cc := cX4_wordAt) (maxL := 3) (ret := (some .int)) (by decide) rfl ?_
  intro p e s m args below meth c s₁ B hml hv
  obtain ⟨rfl, hsz, hP, hK, hD0⟩ := hv
  have hx := B.exec
  have hb := B.bytes
  have hr := B.returns
  have hts := atoms_spec (ws := wsX4_wordAt) B.pre
  have hown : s.vm.findClass RX4 = some m.cls := findClass_of_methodNamed B.named
  have hlocks := B.notSynchronized
  clear B
  subst hsz
  have hD := hD0.self (sz := s.heap.size)
  clear hD0
  generalize hAe : va_A [] s.heap.size = A at hD ⊢
  have hA : ∀ q : Nat, s.heap.size ≤ q → A q := fun q h => by rw [← hAe]; exact Or.inr h
  clear hAe
  have hS : va_S A s.heap s.heap [] := va_S.rf
  have hl := lv_entry ([.int a0, .int a1, .int a2]) (n := 3) (Nat.le_of_ble_eq_true rfl)
  rw [lg_entry_eq]
  generalize (lg_sl ([.int a0, .int a1, .int a2]) ++ List.replicate (3 - (lg_sl ([.int a0, .int a1, .int a2])).length) Slot.unset).toArray = ls at hl ⊢
  have hl : lv_has ls 3 [(0, .int a0), (1, .int a1), (2, .int a2)] := hl
  unfold f_X4_wordAt at hf
  refine lv_iload_n hx hb dX4_wordAt_0 rfl (lv_at hl 0 rfl) ?_
  refine lv_iconst (v := 2) hx hb dX4_wordAt_1 (by decide) ?_
  refine lv_iload_n hx hb dX4_wordAt_2 rfl (lv_at hl 1 rfl) ?_
  refine lv_iconst (v := 1) hx hb dX4_wordAt_3 (by decide) ?_
  refine lv_isub hx hb dX4_wordAt_4 ?_
  refine lv_iload_n hx hb dX4_wordAt_5 rfl (lv_at hl 2 rfl) ?_
  refine lv_isub hx hb dX4_wordAt_6 ?_
  refine lv_imul hx hb dX4_wordAt_7 ?_
  refine lv_ishr hx hb dX4_wordAt_8 ?_
  refine lv_iconst (v := 3) hx hb dX4_wordAt_9 (by decide) ?_
  refine lv_iand hx hb dX4_wordAt_10 ?_
  have he := Option.some.inj hf
  have hP9 := hP
  have hD9 := hD
  exact W.iret (v := ((a0 >>> (((2:Int32) * ((a1 - (1:Int32)) - a2)) &&& 31)) &&& (3:Int32))) hx hb hr (fun t eth hW => ⟨⟨((a0 >>> (((2:Int32) * ((a1 - (1:Int32)) - a2)) &&& 31)) &&& (3:Int32)), (), rfl, he.symm, by rw [eth]; exact hP9, va_K.moved hW.alike hK, hD9⟩, hS.F eth⟩) hS.2.2 dX4_wordAt_11
theorem hd_X1_isTired : yX1_isTired.cls ≠ "java/lang/invoke/MethodHandle" ∧ yX1_isTired.cls ≠ "java/lang/invoke/VarHandle" ∧ (parseMethodDescriptor yX1_isTired.desc).map (fun d => d.parameters.length) = some 2 := by decide +kernel
abbrev rm_X1_isTired : Room := { frames := 0, cells := 0, slots := 0, locals := 0 }
abbrev q_X1_isTired (dC : Nat → ClassId) (dI : Nat → Nat → Nat) (cI cJ cZ : ClassId) (R : Int32) (A : Nat → Prop) : Array Value → State → Outcome → State → Prop := va_Qi (fun (r : Int32) (_ : Unit) => R = r) (fun (u : Unit) (t : State) => va_P (dC, dI) vwCl [] t.heap ∧ va_K (dC, dI) vwCl [(cI, .int), (cJ, .long), (cZ, .boolean)] t ∧ va_D A []) A
set_option maxHeartbeats 4000000 in
set_option maxRecDepth 100000 in
theorem k_X1_isTired (l : Launch) (dC : Nat → ClassId) (dI : Nat → Nat → Nat) (cI cJ cZ : ClassId) (sz : Nat) (a0 : Int32) (a1 : Int32) (N : Nat) (R : Int32) (hf : f_X1_isTired N a0 a1 = some R) : Met l yX1_isTired wsX1_isTired (rm_X1_isTired) (va_Pc [.int a0, .int a1] (fun U => U.heap.size = sz ∧ va_P (dC, dI) vwCl [] U.heap ∧ va_K (dC, dI) vwCl [(cI, .int), (cJ, .long), (cZ, .boolean)] U ∧ va_D (fun _ => True) [])) (q_X1_isTired dC dI cI cJ cZ  R (va_A [] sz)) 0 0 (va_A [] sz) := by
  refine Met.ofW (cc := cX1_isTired) (maxL := 2) (ret := (some .boolean)) (by decide) rfl ?_
  intro p e s m args below meth c s₁ B hml hv
  obtain ⟨rfl, hsz, hP, hK, hD0⟩ := hv
  have hx := B.exec
  have hb := B.bytes
  have hr := B.returns
  have hts := atoms_spec (ws := wsX1_isTired) B.pre
  have hown : s.vm.findClass RX1 = some m.cls := findClass_of_methodNamed B.named
  have hlocks := B.notSynchronized
  clear B
  subst hsz
  have hD := hD0.self (sz := s.heap.size)
  clear hD0
  generalize hAe : va_A [] s.heap.size = A at hD ⊢
  have hA : ∀ q : Nat, s.heap.size ≤ q → A q := fun q h => by rw [← hAe]; exact Or.inr h
  clear hAe
  have hS : va_S A s.heap s.heap [] := va_S.rf
  have hl := lv_entry ([.int a0, .int a1]) (n := 2) (Nat.le_of_ble_eq_true rfl)
  rw [lg_entry_eq]
  generalize (lg_sl ([.int a0, .int a1]) ++ List.replicate (2 - (lg_sl ([.int a0, .int a1])).length) Slot.unset).toArray = ls at hl ⊢
  have hl : lv_has ls 2 [(0, .int a0), (1, .int a1)] := hl
  unfold f_X1_isTired at hf
  refine lv_iload_n hx hb dX1_isTired_0 rfl (lv_at hl 0 rfl) ?_
  refine lv_iload_n hx hb dX1_isTired_1 rfl (lv_at hl 1 rfl) ?_
  refine lv_icmp_le (tgt := 18) hx hb dX1_isTired_2 (by decide) (fun c1 => ?_) (fun c1 => ?_)
  · replace hf := dg_t c1 hf
    refine lv_iconst (v := 0) hx hb dX1_isTired_18 (by decide) ?_
    have he := Option.some.inj hf
    have hP9 := hP
    have hD9 := hD
    exact W.zret (v := (0:Int32)) (ty := .boolean) hx hb hr (by decide) (fun t eth hW => ⟨⟨(0:Int32), (), rfl, he.symm, by rw [eth]; exact hP9, va_K.moved hW.alike hK, hD9⟩, hS.F eth⟩) hS.2.2 dX1_isTired_19
  · replace hf := dg_f c1 hf
    refine lv_iload_n hx hb dX1_isTired_5 rfl (lv_at hl 0 rfl) ?_
    refine lv_iload_n hx hb dX1_isTired_6 rfl (lv_at hl 1 rfl) ?_
    refine lv_isub hx hb dX1_isTired_7 ?_
    refine lv_iconst (v := 2) hx hb dX1_isTired_8 (by decide) ?_
    refine lv_irem hx hb dX1_isTired_9 (by decide) ?_
    refine lv_iconst (v := 1) hx hb dX1_isTired_10 (by decide) ?_
    refine lv_icmp_ne (tgt := 18) hx hb dX1_isTired_11 (by decide) (fun c2 => ?_) (fun c2 => ?_)
    · replace hf := dg_f c2 hf
      refine lv_iconst (v := 0) hx hb dX1_isTired_18 (by decide) ?_
      have he := Option.some.inj hf
      have hP9 := hP
      have hD9 := hD
      exact W.zret (v := (0:Int32)) (ty := .boolean) hx hb hr (by decide) (fun t eth hW => ⟨⟨(0:Int32), (), rfl, he.symm, by rw [eth]; exact hP9, va_K.moved hW.alike hK, hD9⟩, hS.F eth⟩) hS.2.2 dX1_isTired_19
    · replace hf := dg_t c2 hf
      refine lv_iconst (v := 1) hx hb dX1_isTired_14 (by decide) ?_
      refine lv_goto (tgt := 19) hx hb dX1_isTired_15 (by decide) ?_
      have he := Option.some.inj hf
      have hP9 := hP
      have hD9 := hD
      exact W.zret (v := (1:Int32)) (ty := .boolean) hx hb hr (by decide) (fun t eth hW => ⟨⟨(1:Int32), (), rfl, he.symm, by rw [eth]; exact hP9, va_K.moved hW.alike hK, hD9⟩, hS.F eth⟩) hS.2.2 dX1_isTired_19
theorem hd_X4_with : yX4_with.cls ≠ "java/lang/invoke/MethodHandle" ∧ yX4_with.cls ≠ "java/lang/invoke/VarHandle" ∧ (parseMethodDescriptor yX4_with.desc).map (fun d => d.parameters.length) = some 2 := by decide +kernel
abbrev rm_X4_with : Room := { frames := 0, cells := 0, slots := 0, locals := 0 }
abbrev q_X4_with (dC : Nat → ClassId) (dI : Nat → Nat → Nat) (cI cJ cZ : ClassId) (R : Int32) (A : Nat → Prop) : Array Value → State → Outcome → State → Prop := va_Qi (fun (r : Int32) (_ : Unit) => R = r) (fun (u : Unit) (t : State) => va_P (dC, dI) vwCl [] t.heap ∧ va_K (dC, dI) vwCl [(cI, .int), (cJ, .long), (cZ, .boolean)] t ∧ va_D A []) A
set_option maxHeartbeats 4000000 in
set_option maxRecDepth 100000 in
theorem k_X4_with (l : Launch) (dC : Nat → ClassId) (dI : Nat → Nat → Nat) (cI cJ cZ : ClassId) (sz : Nat) (a0 : Int32) (a1 : Int32) (N : Nat) (R : Int32) (hf : f_X4_with N a0 a1 = some R) : Met l yX4_with wsX4_with (rm_X4_with) (va_Pc [.int a0, .int a1] (fun U => U.heap.size = sz ∧ va_P (dC, dI) vwCl [] U.heap ∧ va_K (dC, dI) vwCl [(cI, .int), (cJ, .long), (cZ, .boolean)] U ∧ va_D (fun _ => True) [])) (q_X4_with dC dI cI cJ cZ  R (va_A [] sz)) 0 0 (va_A [] sz) := by
  refine Met.ofW (cc := cX4_with) (maxL := 2) (ret := (some .int)) (by decide) rfl ?_
  intro p e s m args below meth c s₁ B hml hv
  obtain ⟨rfl, hsz, hP, hK, hD0⟩ := hv
  have hx := B.exec
  have hb := B.bytes
  have hr := B.returns
  have hts := atoms_spec (ws := wsX4_with) B.pre
  have hown : s.vm.findClass RX4 = some m.cls := findClass_of_methodNamed B.named
  have hlocks := B.notSynchronized
  clear B
  subst hsz
  have hD := hD0.self (sz := s.heap.size)
  clear hD0
  generalize hAe : va_A [] s.heap.size = A at hD ⊢
  have hA : ∀ q : Nat, s.heap.size ≤ q → A q := fun q h => by rw [← hAe]; exact Or.inr h
  clear hAe
  have hS : va_S A s.heap s.heap [] := va_S.rf
  have hl := lv_entry ([.int a0, .int a1]) (n := 2) (Nat.le_of_ble_eq_true rfl)
  rw [lg_entry_eq]
  generalize (lg_sl ([.int a0, .int a1]) ++ List.replicate (2 - (lg_sl ([.int a0, .int a1])).length) Slot.unset).toArray = ls at hl ⊢
  have hl : lv_has ls 2 [(0, .int a0), (1, .int a1)] := hl
  unfold f_X4_with at hf
  refine lv_iload_n hx hb dX4_with_0 rfl (lv_at hl 0 rfl) ?_
  refine lv_iconst (v := 2) hx hb dX4_with_1 (by decide) ?_
  refine lv_ishl hx hb dX4_with_2 ?_
  refine lv_iload_n hx hb dX4_with_3 rfl (lv_at hl 1 rfl) ?_
  refine lv_ior hx hb dX4_with_4 ?_
  have he := Option.some.inj hf
  have hP9 := hP
  have hD9 := hD
  exact W.iret (v := ((a0 <<< ((2:Int32) &&& 31)) ||| a1)) hx hb hr (fun t eth hW => ⟨⟨((a0 <<< ((2:Int32) &&& 31)) ||| a1), (), rfl, he.symm, by rw [eth]; exact hP9, va_K.moved hW.alike hK, hD9⟩, hS.F eth⟩) hS.2.2 dX4_with_5
theorem hd_X1_taken : yX1_taken.cls ≠ "java/lang/invoke/MethodHandle" ∧ yX1_taken.cls ≠ "java/lang/invoke/VarHandle" ∧ (parseMethodDescriptor yX1_taken.desc).map (fun d => d.parameters.length) = some 5 := by decide +kernel
abbrev rm_X1_taken : Room := { frames := 1, cells := 0, slots := 0, locals := 22 }
abbrev q_X1_taken (dC : Nat → ClassId) (dI : Nat → Nat → Nat) (cI cJ cZ : ClassId) (R : Int32) (A : Nat → Prop) : Array Value → State → Outcome → State → Prop := va_Qi (fun (r : Int32) (_ : Unit) => R = r) (fun (u : Unit) (t : State) => va_P (dC, dI) vwCl [] t.heap ∧ va_K (dC, dI) vwCl [(cI, .int), (cJ, .long), (cZ, .boolean)] t ∧ va_D A []) A
set_option maxHeartbeats 4000000 in
set_option maxRecDepth 100000 in
theorem k_X1_taken (l : Launch) (dC : Nat → ClassId) (dI : Nat → Nat → Nat) (cI cJ cZ : ClassId) (sz : Nat) (a0 : Int32) (a1 : Int32) (a2 : Int32) (a3 : Int32) (a4 : Int32) (N : Nat) (R : Int32) (hf : f_X1_taken N a0 a1 a2 a3 a4 = some R) : Met l yX1_taken wsX1_taken (rm_X1_taken) (va_Pc [.int a0, .int a1, .int a2, .int a3, .int a4] (fun U => U.heap.size = sz ∧ va_P (dC, dI) vwCl [] U.heap ∧ va_K (dC, dI) vwCl [(cI, .int), (cJ, .long), (cZ, .boolean)] U ∧ va_D (fun _ => True) [])) (q_X1_taken dC dI cI cJ cZ  R (va_A [] sz)) 0 0 (va_A [] sz) := by
  refine Met.ofW (cc := cX1_taken) (maxL := 10) (ret := (some .int)) (by decide) rfl ?_
  intro p e s m args below meth c s₁ B hml hv
  obtain ⟨rfl, hsz, hP, hK, hD0⟩ := hv
  have hx := B.exec
  have hb := B.bytes
  have hr := B.returns
  have hts := atoms_spec (ws := wsX1_taken) B.pre
  have hown : s.vm.findClass RX1 = some m.cls := findClass_of_methodNamed B.named
  have hlocks := B.notSynchronized
  clear B
  subst hsz
  have hD := hD0.self (sz := s.heap.size)
  clear hD0
  generalize hAe : va_A [] s.heap.size = A at hD ⊢
  have hA : ∀ q : Nat, s.heap.size ≤ q → A q := fun q h => by rw [← hAe]; exact Or.inr h
  clear hAe
  have hS : va_S A s.heap s.heap [] := va_S.rf
  have hl := lv_entry ([.int a0, .int a1, .int a2, .int a3, .int a4]) (n := 10) (Nat.le_of_ble_eq_true rfl)
  rw [lg_entry_eq]
  generalize (lg_sl ([.int a0, .int a1, .int a2, .int a3, .int a4]) ++ List.replicate (10 - (lg_sl ([.int a0, .int a1, .int a2, .int a3, .int a4])).length) Slot.unset).toArray = ls at hl ⊢
  have hl : lv_has ls 10 [(0, .int a0), (1, .int a1), (2, .int a2), (3, .int a3), (4, .int a4)] := hl
  unfold f_X1_taken at hf
  refine lv_iconst (v := 1) hx hb dX1_taken_0 (by decide) ?_
  refine lv_istore (lv' := [(5, .int (1:Int32)), (0, .int a0), (1, .int a1), (2, .int a2), (3, .int a3), (4, .int a4)]) hx hb dX1_taken_1 hl (by decide) rfl (fun ls hl => ?_)
  refine lv_iload_n hx hb dX1_taken_3 rfl (lv_at hl 1 rfl) ?_
  obtain ⟨x1, hx1, hf⟩ := dg_bind hf
  have hPc : va_P (dC, dI) vwCl [] s.heap := hP.sub [] rfl
  have hDc : va_D A [] := hD.sub [] (by decide) rfl
  have hFc := va_free (wc := []) hD hS hA [] rfl
  refine va_calli (va_runS (As := [.int a0]) (rest := []) ⟨hx, hb, hml, hown, hts⟩ (k_X4_wordsIn l dC dI cI cJ cZ s.heap.size a0 N x1 hx1) (va_cwS 1 hts gX1_taken_X4_wordsIn rfl rfl rfl hd_X4_wordsIn ⟨Nat.le_of_ble_eq_true rfl, Nat.le_of_ble_eq_true rfl⟩) ⟨blind_pc, pre_pc hPc hK hDc⟩ rfl rfl hl.1 rfl (lv_room (Nat.le_of_ble_eq_true rfl)) dX1_taken_4 ⟨Nat.zero_le _, Nat.zero_le _⟩) hS (fun q _ h => hFc q h) hFc (fun r u t H1 locs eth hvm hw hB hz1 hk1 hS => ?_)
  obtain ⟨hP1, hK1, hD1⟩ := hB
  rw [eth] at hP1
  subst hw
  obtain ⟨hP, hD⟩ := va_join (wr := []) (w1 := []) hP hD [] [] rfl rfl (by decide) (by decide) hk1 hFc hP1 hD1
  clear hP1 hK1 hD1 hPc hDc hFc hk1 hz1 hvm eth
  generalize H1 = H at hP hS ⊢
  have hP : va_P (dC, dI) vwCl [] H := hP
  have hD : va_D A [] := hD
  refine lv_istore (lv' := [(6, .int x1), (5, .int (1:Int32)), (0, .int a0), (1, .int a1), (2, .int a2), (3, .int a3), (4, .int a4)]) hx hb dX1_taken_7 hl (by decide) rfl (fun ls hl => ?_)
  refine lv_iconst (v := 0) hx hb dX1_taken_9 (by decide) ?_
  refine lv_istore (lv' := [(7, .int (0:Int32)), (6, .int x1), (5, .int (1:Int32)), (0, .int a0), (1, .int a1), (2, .int a2), (3, .int a3), (4, .int a4)]) hx hb dX1_taken_10 hl (by decide) rfl (fun ls hl => ?_)
  have ex12 : ∀ (z5_12 : Int32) (z7_12 : Int32) (H : Heap) (locs : List Loc) (ls : Array Slot), va_P (dC, dI) vwCl [] H → va_D A [] → va_S A s.heap H locs → lv_has ls 10 [(7, .int z7_12), (6, .int x1), (5, .int z5_12), (0, .int a0), (1, .int a1), (2, .int a2), (3, .int a3), (4, .int a4)] → (some z5_12) = some R → W p l e (rm_X1_taken) s m ([.int a0, .int a1, .int a2, .int a3, .int a4] : List Value).toArray below meth c H locs 0 0 (MQ below (q_X1_taken dC dI cI cJ cZ  R A) ([.int a0, .int a1, .int a2, .int a3, .int a4] : List Value).toArray s 0 0 A) (F0 m 88 ls []) := by
    intro z5_12 z7_12 H locs ls hP hD hS hl hf
    refine lv_iload hx hb dX1_taken_88 (lv_at hl 2 rfl) ?_
    have he := Option.some.inj hf
    have hP9 := hP
    have hD9 := hD
    exact W.iret (v := z5_12) hx hb hr (fun t eth hW => ⟨⟨z5_12, (), rfl, he.symm, by rw [eth]; exact hP9, va_K.moved hW.alike hK, hD9⟩, hS.F eth⟩) hS.2.2 dX1_taken_90
  have lp12 : ∀ (n12 : Nat) (y5_12 : Int32) (y7_12 : Int32) (H : Heap) (locs : List Loc) (ls : Array Slot), va_P (dC, dI) vwCl [] H → va_D A [] → va_S A s.heap H locs → lv_has ls 10 [(7, .int y7_12), (6, .int x1), (5, .int y5_12), (0, .int a0), (1, .int a1), (2, .int a2), (3, .int a3), (4, .int a4)] → f_X1_taken_12 N a0 a1 a2 a3 a4 x1 (fun z5_12 z7_12 => some z5_12) n12 y5_12 y7_12 = some R → W p l e (rm_X1_taken) s m ([.int a0, .int a1, .int a2, .int a3, .int a4] : List Value).toArray below meth c H locs 0 0 (MQ below (q_X1_taken dC dI cI cJ cZ  R A) ([.int a0, .int a1, .int a2, .int a3, .int a4] : List Value).toArray s 0 0 A) (F0 m 12 ls []) := by
    intro n12
    induction n12 with
    | zero => intro y5_12 y7_12 H locs ls hP hD hS hl hf; rw [f_X1_taken_12] at hf; cases hf
    | succ n12 ih12 =>
      intro y5_12 y7_12 H locs ls hP hD hS hl hf
      rw [f_X1_taken_12] at hf
      refine lv_iload hx hb dX1_taken_12 (lv_at hl 0 rfl) ?_
      refine lv_iload hx hb dX1_taken_14 (lv_at hl 1 rfl) ?_
      refine lv_icmp_ge (tgt := 88) hx hb dX1_taken_16 (by decide) (fun c2 => ?_) (fun c2 => ?_)
      · replace hf := dg_t c2 hf
        exact ex12 y5_12 y7_12 _ _ _ hP hD hS (lv_sub hl [0, 1, 2, 3, 4, 5, 6, 7] rfl) hf
      · replace hf := dg_f c2 hf
        refine lv_iload_n hx hb dX1_taken_19 rfl (lv_at hl 3 rfl) ?_
        refine lv_iload hx hb dX1_taken_20 (lv_at hl 1 rfl) ?_
        refine lv_iload hx hb dX1_taken_22 (lv_at hl 0 rfl) ?_
        obtain ⟨x3, hx3, hf⟩ := dg_bind hf
        have hPc : va_P (dC, dI) vwCl [] H := hP.sub [] rfl
        have hDc : va_D A [] := hD.sub [] (by decide) rfl
        have hFc := va_free (wc := []) hD hS hA [] rfl
        refine va_calli (va_runS (As := [.int a0, .int x1, .int y7_12]) (rest := []) ⟨hx, hb, hml, hown, hts⟩ (k_X4_wordAt l dC dI cI cJ cZ H.size a0 x1 y7_12 N x3 hx3) (va_cwS 3 hts gX1_taken_X4_wordAt rfl rfl rfl hd_X4_wordAt ⟨Nat.le_of_ble_eq_true rfl, Nat.le_of_ble_eq_true rfl⟩) ⟨blind_pc, pre_pc hPc hK hDc⟩ rfl rfl hl.1 rfl (lv_room (Nat.le_of_ble_eq_true rfl)) dX1_taken_24 ⟨Nat.zero_le _, Nat.zero_le _⟩) hS (fun q _ h => hFc q h) hFc (fun r u t H1 locs eth hvm hw hB hz1 hk1 hS => ?_)
        obtain ⟨hP1, hK1, hD1⟩ := hB
        rw [eth] at hP1
        subst hw
        obtain ⟨hP, hD⟩ := va_join (wr := []) (w1 := []) hP hD [] [] rfl rfl (by decide) (by decide) hk1 hFc hP1 hD1
        clear hP1 hK1 hD1 hPc hDc hFc hk1 hz1 hvm eth
        generalize H1 = H at hP hS ⊢
        have hP : va_P (dC, dI) vwCl [] H := hP
        have hD : va_D A [] := hD
        refine lv_istore (lv' := [(8, .int x3), (7, .int y7_12), (6, .int x1), (5, .int y5_12), (0, .int a0), (1, .int a1), (2, .int a2), (3, .int a3), (4, .int a4)]) hx hb dX1_taken_27 hl (by decide) rfl (fun ls hl => ?_)
        refine lv_iload hx hb dX1_taken_29 (lv_at hl 1 rfl) ?_
        refine lv_iload hx hb dX1_taken_31 (lv_at hl 8 rfl) ?_
        obtain ⟨x4, hx4, hf⟩ := dg_bind hf
        have hPc : va_P (dC, dI) vwCl [] H := hP.sub [] rfl
        have hDc : va_D A [] := hD.sub [] (by decide) rfl
        have hFc := va_free (wc := []) hD hS hA [] rfl
        refine va_calli (va_runS (As := [.int y7_12, .int a4]) (rest := []) ⟨hx, hb, hml, hown, hts⟩ (k_X1_isTired l dC dI cI cJ cZ H.size y7_12 a4 N x4 hx4) (va_cwS 2 hts gX1_taken_X1_isTired rfl rfl rfl hd_X1_isTired ⟨Nat.le_of_ble_eq_true rfl, Nat.le_of_ble_eq_true rfl⟩) ⟨blind_pc, pre_pc hPc hK hDc⟩ rfl rfl hl.1 rfl (lv_room (Nat.le_of_ble_eq_true rfl)) dX1_taken_33 ⟨Nat.zero_le _, Nat.zero_le _⟩) hS (fun q _ h => hFc q h) hFc (fun r u t H1 locs eth hvm hw hB hz1 hk1 hS => ?_)
        obtain ⟨hP1, hK1, hD1⟩ := hB
        rw [eth] at hP1
        subst hw
        obtain ⟨hP, hD⟩ := va_join (wr := []) (w1 := []) hP hD [] [] rfl rfl (by decide) (by decide) hk1 hFc hP1 hD1
        clear hP1 hK1 hD1 hPc hDc hFc hk1 hz1 hvm eth
        generalize H1 = H at hP hS ⊢
        have hP : va_P (dC, dI) vwCl [] H := hP
        have hD : va_D A [] := hD
        refine lv_if_ne (tgt := 47) hx hb dX1_taken_36 (by decide) (fun c5 => ?_) (fun c5 => ?_)
        · replace hf := dg_f c5 hf
          refine lv_iconst (v := 1) hx hb dX1_taken_47 (by decide) ?_
          refine lv_goto (tgt := 52) hx hb dX1_taken_48 (by decide) ?_
          refine lv_istore (lv' := [(9, .int (1:Int32)), (8, .int x3), (7, .int y7_12), (6, .int x1), (5, .int y5_12), (0, .int a0), (1, .int a1), (2, .int a2), (3, .int a3), (4, .int a4)]) hx hb dX1_taken_52 hl (by decide) rfl (fun ls hl => ?_)
          refine lv_iload hx hb dX1_taken_54 (lv_at hl 0 rfl) ?_
          refine lv_if_ne (tgt := 82) hx hb dX1_taken_56 (by decide) (fun c6 => ?_) (fun c6 => absurd c6 (by decide))
          refine lv_iinc (v := (y7_12 + (1:Int32))) (lv' := [(7, .int (y7_12 + (1:Int32))), (9, .int (1:Int32)), (8, .int x3), (6, .int x1), (5, .int y5_12), (0, .int a0), (1, .int a1), (2, .int a2), (3, .int a3), (4, .int a4)]) hx hb dX1_taken_82 hl (k := 2) rfl (by first | rfl | decide) (by decide) rfl (fun ls hl => ?_)
          refine lv_goto (tgt := 12) hx hb dX1_taken_85 (by decide) ?_
          exact ih12 y5_12 (y7_12 + (1:Int32)) _ _ _ hP hD hS (lv_sub hl [0, 3, 4, 5, 6, 7, 8, 9] rfl) hf
        · replace hf := dg_t c5 hf
          refine lv_iload hx hb dX1_taken_39 (lv_at hl 0 rfl) ?_
          refine lv_iconst (v := 1) hx hb dX1_taken_41 (by decide) ?_
          refine lv_iadd hx hb dX1_taken_42 ?_
          refine lv_iload_n hx hb dX1_taken_43 rfl (lv_at hl 5 rfl) ?_
          refine lv_icmp_ne (tgt := 51) hx hb dX1_taken_44 (by decide) (fun c7 => ?_) (fun c7 => ?_)
          · replace hf := dg_f c7 hf
            refine lv_iconst (v := 0) hx hb dX1_taken_51 (by decide) ?_
            refine lv_istore (lv' := [(9, .int (0:Int32)), (8, .int x3), (7, .int y7_12), (6, .int x1), (5, .int y5_12), (0, .int a0), (1, .int a1), (2, .int a2), (3, .int a3), (4, .int a4)]) hx hb dX1_taken_52 hl (by decide) rfl (fun ls hl => ?_)
            refine lv_iload hx hb dX1_taken_54 (lv_at hl 0 rfl) ?_
            refine lv_if_ne (tgt := 82) hx hb dX1_taken_56 (by decide) (fun c8 => absurd (by decide) c8) (fun c8 => ?_)
            refine lv_iload hx hb dX1_taken_59 (lv_at hl 4 rfl) ?_
            refine lv_iload hx hb dX1_taken_61 (lv_at hl 1 rfl) ?_
            refine lv_iconst (v := 1) hx hb dX1_taken_63 (by decide) ?_
            refine lv_iadd hx hb dX1_taken_64 ?_
            refine lv_iload_n hx hb dX1_taken_65 rfl (lv_at hl 7 rfl) ?_
            refine lv_icmp_ne (tgt := 75) hx hb dX1_taken_66 (by decide) (fun c9 => ?_) (fun c9 => ?_)
            · replace hf := dg_f c9 hf
              refine lv_iload hx hb dX1_taken_75 (lv_at hl 1 rfl) ?_
              obtain ⟨x10, hx10, hf⟩ := dg_bind hf
              have hPc : va_P (dC, dI) vwCl [] H := hP.sub [] rfl
              have hDc : va_D A [] := hD.sub [] (by decide) rfl
              have hFc := va_free (wc := []) hD hS hA [] rfl
              refine va_calli (va_runS (As := [.int y5_12, .int x3]) (rest := []) ⟨hx, hb, hml, hown, hts⟩ (k_X4_with l dC dI cI cJ cZ H.size y5_12 x3 N x10 hx10) (va_cwS 2 hts gX1_taken_X4_with rfl rfl rfl hd_X4_with ⟨Nat.le_of_ble_eq_true rfl, Nat.le_of_ble_eq_true rfl⟩) ⟨blind_pc, pre_pc hPc hK hDc⟩ rfl rfl hl.1 rfl (lv_room (Nat.le_of_ble_eq_true rfl)) dX1_taken_77 ⟨Nat.zero_le _, Nat.zero_le _⟩) hS (fun q _ h => hFc q h) hFc (fun r u t H1 locs eth hvm hw hB hz1 hk1 hS => ?_)
              obtain ⟨hP1, hK1, hD1⟩ := hB
              rw [eth] at hP1
              subst hw
              obtain ⟨hP, hD⟩ := va_join (wr := []) (w1 := []) hP hD [] [] rfl rfl (by decide) (by decide) hk1 hFc hP1 hD1
              clear hP1 hK1 hD1 hPc hDc hFc hk1 hz1 hvm eth
              generalize H1 = H at hP hS ⊢
              have hP : va_P (dC, dI) vwCl [] H := hP
              have hD : va_D A [] := hD
              refine lv_istore (lv' := [(5, .int x10), (9, .int (0:Int32)), (8, .int x3), (7, .int y7_12), (6, .int x1), (0, .int a0), (1, .int a1), (2, .int a2), (3, .int a3), (4, .int a4)]) hx hb dX1_taken_80 hl (by decide) rfl (fun ls hl => ?_)
              refine lv_iinc (v := (y7_12 + (1:Int32))) (lv' := [(7, .int (y7_12 + (1:Int32))), (5, .int x10), (9, .int (0:Int32)), (8, .int x3), (6, .int x1), (0, .int a0), (1, .int a1), (2, .int a2), (3, .int a3), (4, .int a4)]) hx hb dX1_taken_82 hl (k := 3) rfl (by first | rfl | decide) (by decide) rfl (fun ls hl => ?_)
              refine lv_goto (tgt := 12) hx hb dX1_taken_85 (by decide) ?_
              exact ih12 x10 (y7_12 + (1:Int32)) _ _ _ hP hD hS (lv_sub hl [0, 4, 1, 5, 6, 7, 8, 9] rfl) hf
            · replace hf := dg_t c9 hf
              refine lv_iload_n hx hb dX1_taken_69 rfl (lv_at hl 8 rfl) ?_
              refine lv_iconst (v := 1) hx hb dX1_taken_70 (by decide) ?_
              refine lv_isub hx hb dX1_taken_71 ?_
              refine lv_goto (tgt := 77) hx hb dX1_taken_72 (by decide) ?_
              obtain ⟨x11, hx11, hf⟩ := dg_bind hf
              have hPc : va_P (dC, dI) vwCl [] H := hP.sub [] rfl
              have hDc : va_D A [] := hD.sub [] (by decide) rfl
              have hFc := va_free (wc := []) hD hS hA [] rfl
              refine va_calli (va_runS (As := [.int y5_12, .int (a3 - (1:Int32))]) (rest := []) ⟨hx, hb, hml, hown, hts⟩ (k_X4_with l dC dI cI cJ cZ H.size y5_12 (a3 - (1:Int32)) N x11 hx11) (va_cwS 2 hts gX1_taken_X4_with rfl rfl rfl hd_X4_with ⟨Nat.le_of_ble_eq_true rfl, Nat.le_of_ble_eq_true rfl⟩) ⟨blind_pc, pre_pc hPc hK hDc⟩ rfl rfl hl.1 rfl (lv_room (Nat.le_of_ble_eq_true rfl)) dX1_taken_77 ⟨Nat.zero_le _, Nat.zero_le _⟩) hS (fun q _ h => hFc q h) hFc (fun r u t H1 locs eth hvm hw hB hz1 hk1 hS => ?_)
              obtain ⟨hP1, hK1, hD1⟩ := hB
              rw [eth] at hP1
              subst hw
              obtain ⟨hP, hD⟩ := va_join (wr := []) (w1 := []) hP hD [] [] rfl rfl (by decide) (by decide) hk1 hFc hP1 hD1
              clear hP1 hK1 hD1 hPc hDc hFc hk1 hz1 hvm eth
              generalize H1 = H at hP hS ⊢
              have hP : va_P (dC, dI) vwCl [] H := hP
              have hD : va_D A [] := hD
              refine lv_istore (lv' := [(5, .int x11), (9, .int (0:Int32)), (8, .int x3), (7, .int y7_12), (6, .int x1), (0, .int a0), (1, .int a1), (2, .int a2), (3, .int a3), (4, .int a4)]) hx hb dX1_taken_80 hl (by decide) rfl (fun ls hl => ?_)
              refine lv_iinc (v := (y7_12 + (1:Int32))) (lv' := [(7, .int (y7_12 + (1:Int32))), (5, .int x11), (9, .int (0:Int32)), (8, .int x3), (6, .int x1), (0, .int a0), (1, .int a1), (2, .int a2), (3, .int a3), (4, .int a4)]) hx hb dX1_taken_82 hl (k := 3) rfl (by first | rfl | decide) (by decide) rfl (fun ls hl => ?_)
              refine lv_goto (tgt := 12) hx hb dX1_taken_85 (by decide) ?_
              exact ih12 x11 (y7_12 + (1:Int32)) _ _ _ hP hD hS (lv_sub hl [0, 4, 1, 5, 6, 7, 8, 9] rfl) hf
          · replace hf := dg_t c7 hf
            refine lv_iconst (v := 1) hx hb dX1_taken_47 (by decide) ?_
            refine lv_goto (tgt := 52) hx hb dX1_taken_48 (by decide) ?_
            refine lv_istore (lv' := [(9, .int (1:Int32)), (8, .int x3), (7, .int y7_12), (6, .int x1), (5, .int y5_12), (0, .int a0), (1, .int a1), (2, .int a2), (3, .int a3), (4, .int a4)]) hx hb dX1_taken_52 hl (by decide) rfl (fun ls hl => ?_)
            refine lv_iload hx hb dX1_taken_54 (lv_at hl 0 rfl) ?_
            refine lv_if_ne (tgt := 82) hx hb dX1_taken_56 (by decide) (fun c12 => ?_) (fun c12 => absurd c12 (by decide))
            refine lv_iinc (v := (y7_12 + (1:Int32))) (lv' := [(7, .int (y7_12 + (1:Int32))), (9, .int (1:Int32)), (8, .int x3), (6, .int x1), (5, .int y5_12), (0, .int a0), (1, .int a1), (2, .int a2), (3, .int a3), (4, .int a4)]) hx hb dX1_taken_82 hl (k := 2) rfl (by first | rfl | decide) (by decide) rfl (fun ls hl => ?_)
            refine lv_goto (tgt := 12) hx hb dX1_taken_85 (by decide) ?_
            exact ih12 y5_12 (y7_12 + (1:Int32)) _ _ _ hP hD hS (lv_sub hl [0, 3, 4, 5, 6, 7, 8, 9] rfl) hf
  exact lp12 N (1:Int32) (0:Int32) _ _ _ hP hD hS hl hf
theorem hd_X1_pageFrom : yX1_pageFrom.cls = RX1 ∧ yX1_pageFrom.cls ≠ "java/lang/invoke/MethodHandle" ∧ yX1_pageFrom.cls ≠ "java/lang/invoke/VarHandle" ∧ (parseMethodDescriptor yX1_pageFrom.desc).map (fun d => d.parameters.length) = some 2 := by decide +kernel
abbrev rm_X1_pageFrom : Room := { frames := 2, cells := 0, slots := 0, locals := 51 }
abbrev q_X1_pageFrom (dC : Nat → ClassId) (dI : Nat → Nat → Nat) (cI cJ cZ : ClassId) (ht ht_drops ht_from ht_to ht_tires ht_copies ht_pages : Nat) (vt_size : Int32) (vt_drops : Nat → Int32) (vt_from : Nat → Int32) (vt_to : Nat → Int32) (vt_tires : Nat → Int32) (R : Int32) (A : Nat → Prop) : Array Value → State → Outcome → State → Prop := va_Qi (fun (r : Int32) (_ : Unit) => R = r) (fun (u : Unit) (t : State) => va_P (dC, dI) vwCl [(ht, .inr (1, [.ref ht_drops, .ref ht_from, .ref ht_to, .ref ht_tires, .ref ht_copies, .ref ht_pages, .int vt_size])), (ht_drops, .inl (cI, 4, .inl vt_drops)), (ht_from, .inl (cI, 4, .inl vt_from)), (ht_to, .inl (cI, 4, .inl vt_to)), (ht_tires, .inl (cI, 4, .inl vt_tires))] t.heap ∧ va_K (dC, dI) vwCl [(cI, .int), (cJ, .long), (cZ, .boolean)] t ∧ va_D A [(ht, .inr (1, [.ref ht_drops, .ref ht_from, .ref ht_to, .ref ht_tires, .ref ht_copies, .ref ht_pages, .int vt_size])), (ht_drops, .inl (cI, 4, .inl vt_drops)), (ht_from, .inl (cI, 4, .inl vt_from)), (ht_to, .inl (cI, 4, .inl vt_to)), (ht_tires, .inl (cI, 4, .inl vt_tires))]) A
set_option maxHeartbeats 4000000 in
set_option maxRecDepth 100000 in
theorem k_X1_pageFrom (l : Launch) (dC : Nat → ClassId) (dI : Nat → Nat → Nat) (cI cJ cZ : ClassId) (sz : Nat) (ht ht_drops ht_from ht_to ht_tires ht_copies ht_pages : Nat) (a1 : Int32) (a2 : Int32) (vt_size : Int32) (vt_drops : Nat → Int32) (vt_from : Nat → Int32) (vt_to : Nat → Int32) (vt_tires : Nat → Int32) (N : Nat) (R : Int32) (hf : f_X1_pageFrom N a1 a2 vt_drops vt_from vt_to vt_tires = some R) : Met l yX1_pageFrom wsX1_pageFrom (rm_X1_pageFrom) (va_Pc [.ref ht, .int a1, .int a2] (fun U => U.heap.size = sz ∧ va_P (dC, dI) vwCl [(ht, .inr (1, [.ref ht_drops, .ref ht_from, .ref ht_to, .ref ht_tires, .ref ht_copies, .ref ht_pages, .int vt_size])), (ht_drops, .inl (cI, 4, .inl vt_drops)), (ht_from, .inl (cI, 4, .inl vt_from)), (ht_to, .inl (cI, 4, .inl vt_to)), (ht_tires, .inl (cI, 4, .inl vt_tires))] U.heap ∧ va_K (dC, dI) vwCl [(cI, .int), (cJ, .long), (cZ, .boolean)] U ∧ va_D (fun _ => True) [(ht, .inr (1, [.ref ht_drops, .ref ht_from, .ref ht_to, .ref ht_tires, .ref ht_copies, .ref ht_pages, .int vt_size])), (ht_drops, .inl (cI, 4, .inl vt_drops)), (ht_from, .inl (cI, 4, .inl vt_from)), (ht_to, .inl (cI, 4, .inl vt_to)), (ht_tires, .inl (cI, 4, .inl vt_tires))])) (q_X1_pageFrom dC dI cI cJ cZ ht ht_drops ht_from ht_to ht_tires ht_copies ht_pages vt_size vt_drops vt_from vt_to vt_tires R (va_A [(ht, .inr (1, [.ref ht_drops, .ref ht_from, .ref ht_to, .ref ht_tires, .ref ht_copies, .ref ht_pages, .int vt_size])), (ht_drops, .inl (cI, 4, .inl vt_drops)), (ht_from, .inl (cI, 4, .inl vt_from)), (ht_to, .inl (cI, 4, .inl vt_to)), (ht_tires, .inl (cI, 4, .inl vt_tires))] sz)) 0 0 (va_A [(ht, .inr (1, [.ref ht_drops, .ref ht_from, .ref ht_to, .ref ht_tires, .ref ht_copies, .ref ht_pages, .int vt_size])), (ht_drops, .inl (cI, 4, .inl vt_drops)), (ht_from, .inl (cI, 4, .inl vt_from)), (ht_to, .inl (cI, 4, .inl vt_to)), (ht_tires, .inl (cI, 4, .inl vt_tires))] sz) := by
  refine Met.ofW (cc := cX1_pageFrom) (maxL := 3) (ret := (some .int)) (by decide) rfl ?_
  intro p e s m args below meth c s₁ B hml hv
  obtain ⟨rfl, hsz, hP, hK, hD0⟩ := hv
  have hx := B.exec
  have hb := B.bytes
  have hr := B.returns
  have hts := atoms_spec (ws := wsX1_pageFrom) B.pre
  have hown : s.vm.findClass RX1 = some m.cls := findClass_of_methodNamed B.named
  have hlocks := B.notSynchronized
  clear B
  subst hsz
  have hw0 := hts (.fieldLink RX1 9 "ShorthandCourt$Bench" "drops" "[I") (by decide +kernel)
  have hw1 := hts (.fieldLink RX1 15 "ShorthandCourt$Bench" "from" "[I") (by decide +kernel)
  have hw2 := hts (.fieldLink RX1 18 "ShorthandCourt$Bench" "to" "[I") (by decide +kernel)
  have hw3 := hts (.fieldLink RX1 21 "ShorthandCourt$Bench" "tires" "[I") (by decide +kernel)
  have hinX1 : ∀ w ∈ u_ws RX1 TX1 7, w ∈ wsX1_pageFrom := by decide +kernel
  have hD := hD0.self (sz := s.heap.size)
  clear hD0
  generalize hAe : va_A [(ht, .inr (1, [.ref ht_drops, .ref ht_from, .ref ht_to, .ref ht_tires, .ref ht_copies, .ref ht_pages, .int vt_size])), (ht_drops, .inl (cI, 4, .inl vt_drops)), (ht_from, .inl (cI, 4, .inl vt_from)), (ht_to, .inl (cI, 4, .inl vt_to)), (ht_tires, .inl (cI, 4, .inl vt_tires))] s.heap.size = A at hD ⊢
  have hA : ∀ q : Nat, s.heap.size ≤ q → A q := fun q h => by rw [← hAe]; exact Or.inr h
  clear hAe
  have hS : va_S A s.heap s.heap [] := va_S.rf
  have hl := lv_entry ([.ref ht, .int a1, .int a2]) (n := 3) (Nat.le_of_ble_eq_true rfl)
  rw [lg_entry_eq]
  generalize (lg_sl ([.ref ht, .int a1, .int a2]) ++ List.replicate (3 - (lg_sl ([.ref ht, .int a1, .int a2])).length) Slot.unset).toArray = ls at hl ⊢
  have hl : lv_has ls 3 [(0, .ref ht), (1, .int a1), (2, .int a2)] := hl
  unfold f_X1_pageFrom at hf
  refine lv_iload_n hx hb dX1_pageFrom_0 rfl (lv_at hl 2 rfl) ?_
  refine lv_aload_n hx hb dX1_pageFrom_1 rfl (lv_at hl 0 rfl) ?_
  refine va_get (D := (dC, dI)) (ci := 1) (v := .ref ht_drops) (C := RX1) (T := TX1) (N := 7) hx hb hts hinX1 hown hK hP 0 rfl rfl 0 (by decide) hw0 (fun _ h9 => h9) rfl dX1_pageFrom_2 ?_
  refine lv_iload_n hx hb dX1_pageFrom_5 rfl (lv_at hl 1 rfl) ?_
  obtain ⟨hi1, hf⟩ := dg_ix hf
  refine va_iald hx hb hK hP 1 0 rfl rfl hi1 dX1_pageFrom_6 ?_
  refine lv_aload_n hx hb dX1_pageFrom_7 rfl (lv_at hl 0 rfl) ?_
  refine va_get (D := (dC, dI)) (ci := 1) (v := .ref ht_from) (C := RX1) (T := TX1) (N := 7) hx hb hts hinX1 hown hK hP 0 rfl rfl 1 (by decide) hw1 (fun _ h9 => h9) rfl dX1_pageFrom_8 ?_
  refine lv_iload_n hx hb dX1_pageFrom_11 rfl (lv_at hl 1 rfl) ?_
  obtain ⟨hi2, hf⟩ := dg_ix hf
  refine va_iald hx hb hK hP 2 0 rfl rfl hi2 dX1_pageFrom_12 ?_
  refine lv_aload_n hx hb dX1_pageFrom_13 rfl (lv_at hl 0 rfl) ?_
  refine va_get (D := (dC, dI)) (ci := 1) (v := .ref ht_to) (C := RX1) (T := TX1) (N := 7) hx hb hts hinX1 hown hK hP 0 rfl rfl 2 (by decide) hw2 (fun _ h9 => h9) rfl dX1_pageFrom_14 ?_
  refine lv_iload_n hx hb dX1_pageFrom_17 rfl (lv_at hl 1 rfl) ?_
  obtain ⟨hi3, hf⟩ := dg_ix hf
  refine va_iald hx hb hK hP 3 0 rfl rfl hi3 dX1_pageFrom_18 ?_
  refine lv_aload_n hx hb dX1_pageFrom_19 rfl (lv_at hl 0 rfl) ?_
  refine va_get (D := (dC, dI)) (ci := 1) (v := .ref ht_tires) (C := RX1) (T := TX1) (N := 7) hx hb hts hinX1 hown hK hP 0 rfl rfl 3 (by decide) hw3 (fun _ h9 => h9) rfl dX1_pageFrom_20 ?_
  refine lv_iload_n hx hb dX1_pageFrom_23 rfl (lv_at hl 1 rfl) ?_
  obtain ⟨hi4, hf⟩ := dg_ix hf
  refine va_iald hx hb hK hP 4 0 rfl rfl hi4 dX1_pageFrom_24 ?_
  obtain ⟨x5, hx5, hf⟩ := dg_bind hf
  have hPc : va_P (dC, dI) vwCl [] s.heap := hP.sub [] rfl
  have hDc : va_D A [] := hD.sub [] (by decide) rfl
  have hFc := va_free (wc := []) hD hS hA [] rfl
  refine va_calli (va_runS (As := [.int a2, .int (vt_drops a1.toNatClampNeg), .int (vt_from a1.toNatClampNeg), .int (vt_to a1.toNatClampNeg), .int (vt_tires a1.toNatClampNeg)]) (rest := []) ⟨hx, hb, hml, hown, hts⟩ (k_X1_taken l dC dI cI cJ cZ s.heap.size a2 (vt_drops a1.toNatClampNeg) (vt_from a1.toNatClampNeg) (vt_to a1.toNatClampNeg) (vt_tires a1.toNatClampNeg) N x5 hx5) (va_cwS 5 hts gX1_pageFrom_X1_taken rfl rfl rfl hd_X1_taken ⟨Nat.le_of_ble_eq_true rfl, Nat.le_of_ble_eq_true rfl⟩) ⟨blind_pc, pre_pc hPc hK hDc⟩ rfl rfl hl.1 rfl (lv_room (Nat.le_of_ble_eq_true rfl)) dX1_pageFrom_25 ⟨Nat.zero_le _, Nat.zero_le _⟩) hS (fun q _ h => hFc q h) hFc (fun r u t H1 locs eth hvm hw hB hz1 hk1 hS => ?_)
  obtain ⟨hP1, hK1, hD1⟩ := hB
  rw [eth] at hP1
  subst hw
  obtain ⟨hP, hD⟩ := va_join (wr := [(ht, .inr (1, [.ref ht_drops, .ref ht_from, .ref ht_to, .ref ht_tires, .ref ht_copies, .ref ht_pages, .int vt_size])), (ht_drops, .inl (cI, 4, .inl vt_drops)), (ht_from, .inl (cI, 4, .inl vt_from)), (ht_to, .inl (cI, 4, .inl vt_to)), (ht_tires, .inl (cI, 4, .inl vt_tires))]) (w1 := []) hP hD [] [0, 1, 2, 3, 4] rfl rfl (by decide) (by decide) hk1 hFc hP1 hD1
  clear hP1 hK1 hD1 hPc hDc hFc hk1 hz1 hvm eth
  generalize H1 = H at hP hS ⊢
  have hP : va_P (dC, dI) vwCl [(ht, .inr (1, [.ref ht_drops, .ref ht_from, .ref ht_to, .ref ht_tires, .ref ht_copies, .ref ht_pages, .int vt_size])), (ht_drops, .inl (cI, 4, .inl vt_drops)), (ht_from, .inl (cI, 4, .inl vt_from)), (ht_to, .inl (cI, 4, .inl vt_to)), (ht_tires, .inl (cI, 4, .inl vt_tires))] H := hP
  have hD : va_D A [(ht, .inr (1, [.ref ht_drops, .ref ht_from, .ref ht_to, .ref ht_tires, .ref ht_copies, .ref ht_pages, .int vt_size])), (ht_drops, .inl (cI, 4, .inl vt_drops)), (ht_from, .inl (cI, 4, .inl vt_from)), (ht_to, .inl (cI, 4, .inl vt_to)), (ht_tires, .inl (cI, 4, .inl vt_tires))] := hD
  have he := Option.some.inj hf
  have hP9 := hP
  have hD9 := hD
  exact W.iret (v := x5) hx hb hr (fun t eth hW => ⟨⟨x5, (), rfl, he.symm, by rw [eth]; exact hP9, va_K.moved hW.alike hK, hD9⟩, hS.F eth⟩) hS.2.2 dX1_pageFrom_28
